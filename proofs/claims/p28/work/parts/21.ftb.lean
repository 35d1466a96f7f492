/-! THE CODES as operations of the fast machine (written by wip/p28/mk21.py) -/
noncomputable def q_0_0 : List ZFO := oLA 0 :: oObj :: oLA 0 :: oK 40 :: oNa 50 :: oPr 0 2 :: oLA 0 :: oK 40 :: oNa 50 :: oPr 0 3 :: oLA 0 :: oK 0 :: oPf 0 4 :: oLA 0 :: oK 40 :: oNa 50 :: oPr 0 5 :: oLA 0 :: oLA 1 :: oPr 0 0 :: oLA 0 :: oNew 1 8 :: oDup :: oLA 1 :: oCal 14 1 1 :: oPr 0 1 :: oRV :: []
noncomputable def j_0 (t : Nat) : List ZFO := []
noncomputable def q_1_76 : List ZFO := oLI 4 :: oRI 4294967295 :: []
noncomputable def q_1_43 : List ZFO := oLA 0 :: oGr 0 0 :: oLA 0 :: oGr 0 0 :: oGr 3 2 :: oLI 1 :: oIal :: oLI 3 :: oK 0 :: oCal 33 3 3 :: oSI 5 :: oLI 5 :: oLt 76 :: oLA 0 :: oLI 5 :: oLI 1 :: oLI 2 :: oCal 4 3 0 :: q_1_76
noncomputable def q_1_14 : List ZFO := oK 1 :: oLA 0 :: oLI 1 :: oLI 2 :: oK 4294967295 :: oCal 3 3 0 :: oAdd :: oSI 4 :: oLA 0 :: oGr 0 0 :: oGf 3 11 :: oLI 4 :: oAdd :: oK 40 :: oIle 43 :: oK 4294967288 :: oRI 4294967295 :: q_1_43
noncomputable def q_1_0 : List ZFO := oLA 0 :: oGr 0 0 :: oLI 1 :: oLI 2 :: oCal 38 2 3 :: oLt 14 :: oK 4294967295 :: oRI 4294967295 :: q_1_14
noncomputable def j_1 (t : Nat) : List ZFO := Bool.rec (motive := fun _ => List ZFO) (Bool.rec (motive := fun _ => List ZFO) (Bool.rec (motive := fun _ => List ZFO) ([]) q_1_76 (Nat.beq t 76)) q_1_43 (Nat.beq t 43)) q_1_14 (Nat.beq t 14)
noncomputable def q_2_164 : List ZFO := oLI 5 :: oRI 4294967295 :: []
noncomputable def q_2_84 : List ZFO := oLA 0 :: oGr 0 0 :: oLA 0 :: oGr 0 0 :: oGr 3 2 :: oLI 3 :: oIal :: oLA 0 :: oGr 0 0 :: oGr 3 3 :: oLI 1 :: oIal :: oLI 2 :: oCal 33 3 3 :: oSI 6 :: oLI 6 :: oLt 164 :: oLA 0 :: oGr 0 0 :: oGr 3 7 :: oLI 6 :: oLA 0 :: oGr 0 0 :: oGr 3 7 :: oLI 1 :: oIal :: oIas :: oLA 0 :: oGr 0 0 :: oGr 3 8 :: oLI 6 :: oLA 0 :: oGr 0 0 :: oGr 3 8 :: oLI 1 :: oIal :: oIas :: oLA 0 :: oLI 6 :: oLI 3 :: oLI 4 :: oCal 4 3 0 :: q_2_164
noncomputable def q_2_54 : List ZFO := oK 1 :: oLA 0 :: oLI 3 :: oLI 4 :: oK 4294967295 :: oCal 3 3 0 :: oAdd :: oSI 5 :: oLA 0 :: oGr 0 0 :: oGf 3 11 :: oLI 5 :: oAdd :: oK 40 :: oIle 84 :: oK 4294967288 :: oRI 4294967295 :: q_2_84
noncomputable def q_2_30 : List ZFO := oLA 0 :: oGr 0 0 :: oGr 3 2 :: oLI 1 :: oIal :: oLA 0 :: oGr 0 0 :: oGr 3 2 :: oLI 3 :: oIal :: oIeq 54 :: oK 4294967289 :: oRI 4294967295 :: q_2_54
noncomputable def q_2_15 : List ZFO := oLA 0 :: oGr 0 0 :: oGr 3 9 :: oLI 1 :: oIal :: oEq 30 :: oK 4294967294 :: oRI 4294967295 :: q_2_30
noncomputable def q_2_0 : List ZFO := oLA 0 :: oGr 0 0 :: oLI 3 :: oLI 4 :: oCal 38 2 3 :: oLt 15 :: oK 4294967295 :: oRI 4294967295 :: q_2_15
noncomputable def j_2 (t : Nat) : List ZFO := Bool.rec (motive := fun _ => List ZFO) (Bool.rec (motive := fun _ => List ZFO) (Bool.rec (motive := fun _ => List ZFO) (Bool.rec (motive := fun _ => List ZFO) (Bool.rec (motive := fun _ => List ZFO) ([]) q_2_164 (Nat.beq t 164)) q_2_84 (Nat.beq t 84)) q_2_54 (Nat.beq t 54)) q_2_30 (Nat.beq t 30)) q_2_15 (Nat.beq t 15)
noncomputable def q_3_108 : List ZFO := oLI 4 :: oRI 4294967295 :: []
noncomputable def q_3_102 : List ZFO := oInc 5 1 :: oGo 14 :: q_3_108
noncomputable def q_3_99 : List ZFO := oAdd :: oSI 4 :: q_3_102
noncomputable def q_3_98 : List ZFO := oK 0 :: q_3_99
noncomputable def q_3_94 : List ZFO := oK 1 :: oGo 99 :: q_3_98
noncomputable def q_3_14 : List ZFO := oLI 5 :: oLA 0 :: oGr 0 1 :: oGf 1 7 :: oIge 108 :: oLA 0 :: oGr 0 0 :: oLA 0 :: oGr 0 1 :: oGr 1 4 :: oLI 5 :: oIal :: oCal 37 1 3 :: oSI 6 :: oLI 6 :: oLt 102 :: oLI 6 :: oLI 1 :: oIeq 102 :: oLA 0 :: oGr 0 0 :: oLI 6 :: oLI 2 :: oCal 42 2 3 :: oEq 102 :: oLA 0 :: oGr 0 0 :: oLI 6 :: oLI 2 :: oCal 38 2 3 :: oSI 7 :: oLI 4 :: oLI 7 :: oLt 94 :: oLI 7 :: oLI 3 :: oIne 98 :: q_3_94
noncomputable def q_3_0 : List ZFO := oLA 0 :: oGr 0 1 :: oLI 1 :: oCal 15 1 1 :: oK 0 :: oSI 4 :: oK 0 :: oSI 5 :: q_3_14
noncomputable def j_3 (t : Nat) : List ZFO := Bool.rec (motive := fun _ => List ZFO) (Bool.rec (motive := fun _ => List ZFO) (Bool.rec (motive := fun _ => List ZFO) (Bool.rec (motive := fun _ => List ZFO) (Bool.rec (motive := fun _ => List ZFO) (Bool.rec (motive := fun _ => List ZFO) ([]) q_3_108 (Nat.beq t 108)) q_3_102 (Nat.beq t 102)) q_3_99 (Nat.beq t 99)) q_3_98 (Nat.beq t 98)) q_3_94 (Nat.beq t 94)) q_3_14 (Nat.beq t 14)
noncomputable def q_4_194 : List ZFO := oRV :: []
noncomputable def q_4_188 : List ZFO := oInc 5 1 :: oGo 91 :: q_4_194
noncomputable def q_4_185 : List ZFO := oCal 7 4 0 :: q_4_188
noncomputable def q_4_184 : List ZFO := oK 0 :: q_4_185
noncomputable def q_4_91 : List ZFO := oLI 5 :: oLA 0 :: oGr 0 1 :: oGf 1 7 :: oIge 194 :: oLA 0 :: oGr 0 0 :: oLA 0 :: oGr 0 1 :: oGr 1 4 :: oLI 5 :: oIal :: oCal 37 1 3 :: oSI 6 :: oLI 6 :: oLt 188 :: oLI 6 :: oLI 2 :: oIeq 188 :: oLA 0 :: oGr 0 0 :: oLI 6 :: oLI 3 :: oCal 42 2 3 :: oEq 188 :: oLA 0 :: oGr 0 0 :: oLI 6 :: oLI 3 :: oCal 38 2 3 :: oGe 188 :: oLA 0 :: oLI 1 :: oLI 6 :: oLI 5 :: oLA 0 :: oGr 0 1 :: oGr 1 5 :: oLI 5 :: oIal :: oLI 4 :: oIne 184 :: oK 1 :: oGo 185 :: q_4_184
noncomputable def q_4_73 : List ZFO := oLA 0 :: oLI 4 :: oLA 0 :: oGr 0 0 :: oGr 3 7 :: oLI 1 :: oIal :: oCal 5 2 0 :: oK 0 :: oSI 5 :: q_4_91
noncomputable def q_4_45 : List ZFO := oLA 0 :: oGr 0 0 :: oGr 3 7 :: oLI 1 :: oIal :: oNe 73 :: oLA 0 :: oGr 0 0 :: oGr 3 7 :: oLI 1 :: oLA 0 :: oGr 0 0 :: oCal 36 0 3 :: oIas :: q_4_73
noncomputable def q_4_0 : List ZFO := oLA 0 :: oGr 0 0 :: oGr 3 5 :: oLI 1 :: oLA 0 :: oGr 0 0 :: oGr 3 1 :: oLI 2 :: oIal :: oIas :: oLA 0 :: oGr 0 0 :: oGr 3 6 :: oLI 1 :: oLI 3 :: oIas :: oLA 0 :: oGr 0 0 :: oGr 3 7 :: oLI 2 :: oIal :: oSI 4 :: oLI 4 :: oNe 45 :: oRV :: q_4_45
noncomputable def j_4 (t : Nat) : List ZFO := Bool.rec (motive := fun _ => List ZFO) (Bool.rec (motive := fun _ => List ZFO) (Bool.rec (motive := fun _ => List ZFO) (Bool.rec (motive := fun _ => List ZFO) (Bool.rec (motive := fun _ => List ZFO) (Bool.rec (motive := fun _ => List ZFO) (Bool.rec (motive := fun _ => List ZFO) ([]) q_4_194 (Nat.beq t 194)) q_4_188 (Nat.beq t 188)) q_4_185 (Nat.beq t 185)) q_4_184 (Nat.beq t 184)) q_4_91 (Nat.beq t 91)) q_4_73 (Nat.beq t 73)) q_4_45 (Nat.beq t 45)
noncomputable def q_5_84 : List ZFO := oRV :: []
noncomputable def q_5_61 : List ZFO := oIas :: oLA 0 :: oDup :: oGf 0 4 :: oK 1 :: oAdd :: oPf 0 4 :: oLA 0 :: oGr 0 1 :: oLI 3 :: oCal 18 1 1 :: oSI 3 :: oGo 14 :: q_5_84
noncomputable def q_5_54 : List ZFO := oLA 0 :: oGr 0 0 :: oCal 36 0 3 :: q_5_61
noncomputable def q_5_14 : List ZFO := oLI 3 :: oEq 84 :: oLA 0 :: oGf 0 4 :: oK 40 :: oIge 84 :: oLA 0 :: oGr 0 2 :: oLA 0 :: oGf 0 4 :: oLI 3 :: oIas :: oLA 0 :: oGr 0 3 :: oLA 0 :: oGf 0 4 :: oLI 3 :: oLI 1 :: oIne 54 :: oLI 2 :: oGo 61 :: q_5_54
noncomputable def q_5_0 : List ZFO := oLA 0 :: oK 0 :: oPf 0 4 :: oLA 0 :: oGr 0 1 :: oK 0 :: oCal 18 1 1 :: oSI 3 :: q_5_14
noncomputable def j_5 (t : Nat) : List ZFO := Bool.rec (motive := fun _ => List ZFO) (Bool.rec (motive := fun _ => List ZFO) (Bool.rec (motive := fun _ => List ZFO) (Bool.rec (motive := fun _ => List ZFO) ([]) q_5_84 (Nat.beq t 84)) q_5_61 (Nat.beq t 61)) q_5_54 (Nat.beq t 54)) q_5_14 (Nat.beq t 14)
noncomputable def q_6_33 : List ZFO := oK 0 :: oRI 4294967295 :: []
noncomputable def q_6_27 : List ZFO := oInc 2 1 :: oGo 2 :: q_6_33
noncomputable def q_6_2 : List ZFO := oLI 2 :: oLA 0 :: oGf 0 4 :: oIge 33 :: oLA 0 :: oGr 0 2 :: oLI 2 :: oIal :: oLI 1 :: oIne 27 :: oLA 0 :: oGr 0 3 :: oLI 2 :: oIal :: oRI 4294967295 :: q_6_27
noncomputable def q_6_0 : List ZFO := oK 0 :: oSI 2 :: q_6_2
noncomputable def j_6 (t : Nat) : List ZFO := Bool.rec (motive := fun _ => List ZFO) (Bool.rec (motive := fun _ => List ZFO) (Bool.rec (motive := fun _ => List ZFO) ([]) q_6_33 (Nat.beq t 33)) q_6_27 (Nat.beq t 27)) q_6_2 (Nat.beq t 2)
noncomputable def q_7_172 : List ZFO := oRV :: []
noncomputable def q_7_126 : List ZFO := oLA 0 :: oGr 0 0 :: oGr 3 7 :: oLI 5 :: oLA 0 :: oLA 0 :: oGr 0 1 :: oGr 1 5 :: oLI 3 :: oIal :: oCal 6 1 0 :: oIas :: oLA 0 :: oGr 0 0 :: oGr 3 8 :: oLI 5 :: oLA 0 :: oLA 0 :: oGr 0 1 :: oGr 1 6 :: oLI 3 :: oIal :: oCal 6 1 0 :: oIas :: q_7_172
noncomputable def q_7_42 : List ZFO := oLA 0 :: oGr 0 0 :: oGr 3 5 :: oLI 5 :: oLA 0 :: oGr 0 0 :: oGr 3 1 :: oLI 2 :: oIal :: oIas :: oLA 0 :: oGr 0 0 :: oGr 3 6 :: oLI 5 :: oLA 0 :: oGr 0 0 :: oGr 3 6 :: oLI 1 :: oIal :: oIas :: oLI 4 :: oEq 126 :: oLA 0 :: oGr 0 0 :: oGr 3 7 :: oLI 5 :: oLA 0 :: oGr 0 0 :: oGr 3 7 :: oLI 1 :: oIal :: oIas :: oLA 0 :: oGr 0 0 :: oGr 3 8 :: oLI 5 :: oLA 0 :: oGr 0 0 :: oGr 3 8 :: oLI 1 :: oIal :: oIas :: oGo 172 :: q_7_126
noncomputable def q_7_0 : List ZFO := oLA 0 :: oGr 0 0 :: oLA 0 :: oGr 0 0 :: oGr 3 2 :: oLI 2 :: oIal :: oLA 0 :: oGr 0 0 :: oGr 3 3 :: oLI 1 :: oIal :: oLA 0 :: oGr 0 0 :: oGr 3 4 :: oLI 1 :: oIal :: oCal 33 3 3 :: oSI 5 :: oLI 5 :: oGe 42 :: oRV :: q_7_42
noncomputable def j_7 (t : Nat) : List ZFO := Bool.rec (motive := fun _ => List ZFO) (Bool.rec (motive := fun _ => List ZFO) (Bool.rec (motive := fun _ => List ZFO) ([]) q_7_172 (Nat.beq t 172)) q_7_126 (Nat.beq t 126)) q_7_42 (Nat.beq t 42)
noncomputable def q_8_167 : List ZFO := oLI 7 :: oRI 4294967295 :: []
noncomputable def q_8_161 : List ZFO := oInc 8 1 :: oGo 110 :: q_8_167
noncomputable def q_8_110 : List ZFO := oLI 8 :: oLA 0 :: oGr 0 1 :: oGf 1 7 :: oIge 167 :: oLA 0 :: oGr 0 1 :: oGr 1 4 :: oLI 8 :: oIal :: oLI 3 :: oIeq 161 :: oLI 7 :: oLA 0 :: oLA 0 :: oGr 0 1 :: oGr 1 4 :: oLI 8 :: oIal :: oLI 4 :: oLI 5 :: oLI 6 :: oCal 9 4 0 :: oAdd :: oSI 7 :: q_8_161
noncomputable def q_8_45 : List ZFO := oLA 0 :: oGr 0 1 :: oLI 2 :: oCal 15 1 1 :: oLA 0 :: oGr 0 0 :: oGr 3 1 :: oLI 2 :: oIal :: oSI 3 :: oLA 0 :: oGr 0 0 :: oGr 3 6 :: oLI 1 :: oIal :: oSI 4 :: oLA 0 :: oGr 0 0 :: oGr 3 3 :: oLI 1 :: oIal :: oSI 5 :: oLA 0 :: oGr 0 0 :: oGr 3 4 :: oLI 1 :: oIal :: oSI 6 :: oLA 0 :: oGr 0 0 :: oLI 1 :: oCal 34 1 3 :: oK 1 :: oSI 7 :: oK 0 :: oSI 8 :: q_8_110
noncomputable def q_8_31 : List ZFO := oLA 0 :: oGr 0 0 :: oLI 1 :: oCal 40 1 3 :: oEq 45 :: oK 4294967291 :: oRI 4294967295 :: q_8_45
noncomputable def q_8_15 : List ZFO := oLA 0 :: oGr 0 0 :: oLI 1 :: oCal 39 1 3 :: oSI 2 :: oLI 2 :: oGe 31 :: oK 4294967292 :: oRI 4294967295 :: q_8_31
noncomputable def q_8_0 : List ZFO := oLA 0 :: oGr 0 0 :: oGr 3 10 :: oLI 1 :: oIal :: oEq 15 :: oK 4294967293 :: oRI 4294967295 :: q_8_15
noncomputable def j_8 (t : Nat) : List ZFO := Bool.rec (motive := fun _ => List ZFO) (Bool.rec (motive := fun _ => List ZFO) (Bool.rec (motive := fun _ => List ZFO) (Bool.rec (motive := fun _ => List ZFO) (Bool.rec (motive := fun _ => List ZFO) (Bool.rec (motive := fun _ => List ZFO) ([]) q_8_167 (Nat.beq t 167)) q_8_161 (Nat.beq t 161)) q_8_110 (Nat.beq t 110)) q_8_45 (Nat.beq t 45)) q_8_31 (Nat.beq t 31)) q_8_15 (Nat.beq t 15)
noncomputable def q_9_102 : List ZFO := oLA 0 :: oGr 0 0 :: oLI 6 :: oCal 34 1 3 :: oK 1 :: oRI 4294967295 :: []
noncomputable def q_9_100 : List ZFO := oK 0 :: oRI 4294967295 :: q_9_102
noncomputable def q_9_68 : List ZFO := oSI 7 :: oLI 7 :: oEq 100 :: oLA 0 :: oGr 0 0 :: oGr 3 10 :: oLI 6 :: oIal :: oNe 100 :: oLA 0 :: oGr 0 0 :: oLI 6 :: oCal 40 1 3 :: oEq 102 :: q_9_100
noncomputable def q_9_67 : List ZFO := oK 0 :: q_9_68
noncomputable def q_9_17 : List ZFO := oLA 0 :: oGr 0 0 :: oLI 5 :: oLI 2 :: oCal 38 2 3 :: oSI 6 :: oLI 6 :: oLt 67 :: oLA 0 :: oGr 0 0 :: oGr 3 3 :: oLI 6 :: oIal :: oLI 3 :: oIne 67 :: oLA 0 :: oGr 0 0 :: oGr 3 4 :: oLI 6 :: oIal :: oLI 4 :: oIne 67 :: oK 1 :: oGo 68 :: q_9_67
noncomputable def q_9_0 : List ZFO := oLA 0 :: oGr 0 0 :: oLI 1 :: oCal 37 1 3 :: oSI 5 :: oLI 5 :: oGe 17 :: oK 0 :: oRI 4294967295 :: q_9_17
noncomputable def j_9 (t : Nat) : List ZFO := Bool.rec (motive := fun _ => List ZFO) (Bool.rec (motive := fun _ => List ZFO) (Bool.rec (motive := fun _ => List ZFO) (Bool.rec (motive := fun _ => List ZFO) (Bool.rec (motive := fun _ => List ZFO) ([]) q_9_102 (Nat.beq t 102)) q_9_100 (Nat.beq t 100)) q_9_68 (Nat.beq t 68)) q_9_67 (Nat.beq t 67)) q_9_17 (Nat.beq t 17)
noncomputable def q_10_121 : List ZFO := oIas :: oLA 0 :: oGr 0 0 :: oGr 3 7 :: oLI 1 :: oIal :: oRI 4294967295 :: []
noncomputable def q_10_120 : List ZFO := oK 0 :: q_10_121
noncomputable def q_10_103 : List ZFO := oLA 0 :: oGr 0 0 :: oGr 3 9 :: oLI 1 :: oLI 2 :: oK 3 :: oIne 120 :: oK 1 :: oGo 121 :: q_10_120
noncomputable def q_10_83 : List ZFO := oLA 0 :: oGr 0 0 :: oGr 3 7 :: oLI 1 :: oK 0 :: oIas :: oLA 0 :: oGr 0 0 :: oGr 3 8 :: oLI 1 :: oK 0 :: oIas :: q_10_103
noncomputable def q_10_70 : List ZFO := oLA 0 :: oGr 0 0 :: oGr 3 7 :: oLI 1 :: oK 0 :: oIas :: oGo 103 :: q_10_83
noncomputable def q_10_42 : List ZFO := oLI 2 :: oK 2 :: oIne 83 :: oLI 3 :: oEq 70 :: oLA 0 :: oLI 3 :: oLI 1 :: oCal 11 2 0 :: oEq 70 :: oLA 0 :: oGr 0 0 :: oGr 3 8 :: oLI 1 :: oLI 3 :: oIas :: q_10_70
noncomputable def q_10_38 : List ZFO := oIas :: oGo 103 :: q_10_42
noncomputable def q_10_37 : List ZFO := oLI 3 :: q_10_38
noncomputable def q_10_0 : List ZFO := oLA 0 :: oGr 0 0 :: oGr 3 7 :: oLI 1 :: oIal :: oSI 3 :: oLI 2 :: oK 1 :: oIne 42 :: oLA 0 :: oGr 0 0 :: oGr 3 7 :: oLI 1 :: oLI 3 :: oNe 37 :: oLA 0 :: oGr 0 0 :: oCal 36 0 3 :: oGo 38 :: q_10_37
noncomputable def j_10 (t : Nat) : List ZFO := Bool.rec (motive := fun _ => List ZFO) (Bool.rec (motive := fun _ => List ZFO) (Bool.rec (motive := fun _ => List ZFO) (Bool.rec (motive := fun _ => List ZFO) (Bool.rec (motive := fun _ => List ZFO) (Bool.rec (motive := fun _ => List ZFO) (Bool.rec (motive := fun _ => List ZFO) (Bool.rec (motive := fun _ => List ZFO) ([]) q_10_121 (Nat.beq t 121)) q_10_120 (Nat.beq t 120)) q_10_103 (Nat.beq t 103)) q_10_83 (Nat.beq t 83)) q_10_70 (Nat.beq t 70)) q_10_42 (Nat.beq t 42)) q_10_38 (Nat.beq t 38)) q_10_37 (Nat.beq t 37)
noncomputable def q_11_39 : List ZFO := oK 0 :: oRI 1 :: []
noncomputable def q_11_33 : List ZFO := oInc 3 1 :: oGo 2 :: q_11_39
noncomputable def q_11_2 : List ZFO := oLI 3 :: oLA 0 :: oGr 0 0 :: oGf 3 11 :: oIge 39 :: oLI 3 :: oLI 2 :: oIeq 33 :: oLA 0 :: oGr 0 0 :: oGr 3 7 :: oLI 3 :: oIal :: oLI 1 :: oIne 33 :: oK 1 :: oRI 1 :: q_11_33
noncomputable def q_11_0 : List ZFO := oK 0 :: oSI 3 :: q_11_2
noncomputable def j_11 (t : Nat) : List ZFO := Bool.rec (motive := fun _ => List ZFO) (Bool.rec (motive := fun _ => List ZFO) (Bool.rec (motive := fun _ => List ZFO) ([]) q_11_39 (Nat.beq t 39)) q_11_33 (Nat.beq t 33)) q_11_2 (Nat.beq t 2)
noncomputable def q_12_199 : List ZFO := oLI 5 :: oRI 4294967295 :: []
noncomputable def q_12_192 : List ZFO := oIas :: oInc 6 1 :: oGo 136 :: q_12_199
noncomputable def q_12_185 : List ZFO := oLA 0 :: oGr 0 5 :: oLI 7 :: oIal :: q_12_192
noncomputable def q_12_136 : List ZFO := oLI 6 :: oLA 0 :: oGr 0 0 :: oGf 3 11 :: oIge 199 :: oLA 0 :: oGr 0 0 :: oLA 0 :: oGr 0 0 :: oGr 3 5 :: oLI 6 :: oIal :: oCal 37 1 3 :: oSI 7 :: oLA 0 :: oGr 0 0 :: oGr 3 5 :: oLI 6 :: oLI 7 :: oGe 185 :: oK 4294967295 :: oGo 192 :: q_12_185
noncomputable def q_12_133 : List ZFO := oLI 3 :: oSI 6 :: q_12_136
noncomputable def q_12_127 : List ZFO := oInc 6 1 :: oGo 98 :: q_12_133
noncomputable def q_12_98 : List ZFO := oLI 6 :: oLI 3 :: oIge 133 :: oLA 0 :: oGr 0 0 :: oGr 3 2 :: oLI 6 :: oIal :: oLI 1 :: oIne 127 :: oLA 0 :: oLI 6 :: oLI 5 :: oLI 2 :: oCal 13 3 0 :: q_12_127
noncomputable def q_12_73 : List ZFO := oLA 0 :: oGr 0 0 :: oGf 3 12 :: oSI 5 :: oLA 0 :: oGr 0 0 :: oDup :: oGf 3 12 :: oK 1 :: oAdd :: oPf 3 12 :: oK 0 :: oSI 6 :: q_12_98
noncomputable def q_12_70 : List ZFO := oK 4294967288 :: oRI 4294967295 :: q_12_73
noncomputable def q_12_50 : List ZFO := oLA 0 :: oGr 0 0 :: oGf 3 12 :: oK 4 :: oIge 70 :: oLI 3 :: oLI 4 :: oAdd :: oK 40 :: oIle 73 :: q_12_70
noncomputable def q_12_41 : List ZFO := oAdd :: oSI 4 :: oInc 5 1 :: oGo 14 :: q_12_50
noncomputable def q_12_40 : List ZFO := oK 0 :: q_12_41
noncomputable def q_12_14 : List ZFO := oLI 5 :: oLI 3 :: oIge 50 :: oLI 4 :: oLA 0 :: oGr 0 0 :: oGr 3 2 :: oLI 5 :: oIal :: oLI 1 :: oIne 40 :: oK 1 :: oGo 41 :: q_12_40
noncomputable def q_12_0 : List ZFO := oLA 0 :: oGr 0 0 :: oGf 3 11 :: oSI 3 :: oK 0 :: oSI 4 :: oK 0 :: oSI 5 :: q_12_14
noncomputable def j_12 (t : Nat) : List ZFO := Bool.rec (motive := fun _ => List ZFO) (Bool.rec (motive := fun _ => List ZFO) (Bool.rec (motive := fun _ => List ZFO) (Bool.rec (motive := fun _ => List ZFO) (Bool.rec (motive := fun _ => List ZFO) (Bool.rec (motive := fun _ => List ZFO) (Bool.rec (motive := fun _ => List ZFO) (Bool.rec (motive := fun _ => List ZFO) (Bool.rec (motive := fun _ => List ZFO) (Bool.rec (motive := fun _ => List ZFO) (Bool.rec (motive := fun _ => List ZFO) (Bool.rec (motive := fun _ => List ZFO) (Bool.rec (motive := fun _ => List ZFO) ([]) q_12_199 (Nat.beq t 199)) q_12_192 (Nat.beq t 192)) q_12_185 (Nat.beq t 185)) q_12_136 (Nat.beq t 136)) q_12_133 (Nat.beq t 133)) q_12_127 (Nat.beq t 127)) q_12_98 (Nat.beq t 98)) q_12_73 (Nat.beq t 73)) q_12_70 (Nat.beq t 70)) q_12_50 (Nat.beq t 50)) q_12_41 (Nat.beq t 41)) q_12_40 (Nat.beq t 40)) q_12_14 (Nat.beq t 14)
noncomputable def q_13_219 : List ZFO := oIas :: oRV :: []
noncomputable def q_13_210 : List ZFO := oLA 0 :: oGr 0 0 :: oGr 3 8 :: oLI 1 :: oIal :: q_13_219
noncomputable def q_13_183 : List ZFO := oIas :: oLA 0 :: oGr 0 0 :: oGr 3 8 :: oLI 4 :: oLI 5 :: oEq 210 :: oLA 0 :: oGr 0 0 :: oGr 3 7 :: oLI 1 :: oIal :: oGo 219 :: q_13_210
noncomputable def q_13_174 : List ZFO := oLA 0 :: oGr 0 0 :: oGr 3 7 :: oLI 1 :: oIal :: q_13_183
noncomputable def q_13_155 : List ZFO := oSI 5 :: oLA 0 :: oGr 0 0 :: oGr 3 7 :: oLI 4 :: oLI 3 :: oEq 174 :: oK 0 :: oGo 183 :: q_13_174
noncomputable def q_13_154 : List ZFO := oK 0 :: q_13_155
noncomputable def q_13_133 : List ZFO := oIas :: oLI 3 :: oEq 154 :: oLA 0 :: oGr 0 0 :: oGr 3 7 :: oLI 1 :: oIal :: oEq 154 :: oK 1 :: oGo 155 :: q_13_154
noncomputable def q_13_124 : List ZFO := oLA 0 :: oGr 0 0 :: oGr 3 10 :: oLI 1 :: oIal :: q_13_133
noncomputable def q_13_34 : List ZFO := oLA 0 :: oGr 0 5 :: oLI 1 :: oLA 0 :: oGr 0 0 :: oGr 3 1 :: oLI 4 :: oIal :: oIas :: oLA 0 :: oGr 0 0 :: oGr 3 5 :: oLI 4 :: oLA 0 :: oGr 0 0 :: oGr 3 5 :: oLI 1 :: oIal :: oIas :: oLA 0 :: oGr 0 0 :: oGr 3 6 :: oLI 4 :: oLA 0 :: oGr 0 0 :: oGr 3 6 :: oLI 1 :: oIal :: oIas :: oLA 0 :: oGr 0 0 :: oGr 3 9 :: oLI 4 :: oLA 0 :: oGr 0 0 :: oGr 3 9 :: oLI 1 :: oIal :: oIas :: oLA 0 :: oGr 0 0 :: oGr 3 10 :: oLI 4 :: oLI 3 :: oEq 124 :: oK 1 :: oGo 133 :: q_13_124
noncomputable def q_13_0 : List ZFO := oLA 0 :: oGr 0 0 :: oLI 2 :: oLA 0 :: oGr 0 0 :: oGr 3 3 :: oLI 1 :: oIal :: oLA 0 :: oGr 0 0 :: oGr 3 4 :: oLI 1 :: oIal :: oCal 33 3 3 :: oSI 4 :: oLI 4 :: oGe 34 :: oRV :: q_13_34
noncomputable def j_13 (t : Nat) : List ZFO := Bool.rec (motive := fun _ => List ZFO) (Bool.rec (motive := fun _ => List ZFO) (Bool.rec (motive := fun _ => List ZFO) (Bool.rec (motive := fun _ => List ZFO) (Bool.rec (motive := fun _ => List ZFO) (Bool.rec (motive := fun _ => List ZFO) (Bool.rec (motive := fun _ => List ZFO) (Bool.rec (motive := fun _ => List ZFO) (Bool.rec (motive := fun _ => List ZFO) ([]) q_13_219 (Nat.beq t 219)) q_13_210 (Nat.beq t 210)) q_13_183 (Nat.beq t 183)) q_13_174 (Nat.beq t 174)) q_13_155 (Nat.beq t 155)) q_13_154 (Nat.beq t 154)) q_13_133 (Nat.beq t 133)) q_13_124 (Nat.beq t 124)) q_13_34 (Nat.beq t 34)
noncomputable def q_14_0 : List ZFO := oLA 0 :: oObj :: oLA 0 :: oK 40 :: oNa 52 :: oPr 1 1 :: oLA 0 :: oK 40 :: oNa 50 :: oPr 1 2 :: oLA 0 :: oK 0 :: oPf 1 3 :: oLA 0 :: oK 40 :: oNa 50 :: oPr 1 4 :: oLA 0 :: oK 40 :: oNa 50 :: oPr 1 5 :: oLA 0 :: oK 40 :: oNa 50 :: oPr 1 6 :: oLA 0 :: oK 0 :: oPf 1 7 :: oLA 0 :: oLA 1 :: oPr 1 0 :: oRV :: []
noncomputable def j_14 (t : Nat) : List ZFO := []
noncomputable def q_15_135 : List ZFO := oRV :: []
noncomputable def q_15_129 : List ZFO := oInc 2 1 :: oGo 104 :: q_15_135
noncomputable def q_15_104 : List ZFO := oLI 2 :: oLA 0 :: oGr 1 0 :: oGf 3 11 :: oIge 135 :: oLA 0 :: oGr 1 1 :: oLI 2 :: oBal :: oEq 129 :: oLA 0 :: oLI 2 :: oCal 17 1 1 :: q_15_129
noncomputable def q_15_102 : List ZFO := oK 0 :: oSI 2 :: q_15_104
noncomputable def q_15_64 : List ZFO := oLI 2 :: oLA 0 :: oGf 1 3 :: oIge 102 :: oLI 2 :: oK 40 :: oIge 102 :: oLA 0 :: oLA 0 :: oGr 1 0 :: oGr 3 7 :: oLA 0 :: oGr 1 2 :: oLI 2 :: oIal :: oIal :: oCal 16 1 1 :: oInc 2 1 :: oGo 64 :: q_15_102
noncomputable def q_15_44 : List ZFO := oLA 0 :: oK 0 :: oPf 1 3 :: oLA 0 :: oLA 0 :: oGr 1 0 :: oGr 3 7 :: oLI 1 :: oIal :: oCal 16 1 1 :: oK 0 :: oSI 2 :: q_15_64
noncomputable def q_15_20 : List ZFO := oLI 2 :: oLA 0 :: oGr 1 0 :: oGf 3 11 :: oIge 44 :: oLA 0 :: oGr 1 1 :: oLI 2 :: oK 0 :: oBas :: oInc 2 1 :: oGo 20 :: q_15_44
noncomputable def q_15_18 : List ZFO := oK 0 :: oSI 2 :: q_15_20
noncomputable def q_15_0 : List ZFO := oLA 0 :: oK 0 :: oPf 1 7 :: oLA 0 :: oGr 1 0 :: oGr 3 7 :: oLI 1 :: oIal :: oNe 18 :: oRV :: q_15_18
noncomputable def j_15 (t : Nat) : List ZFO := Bool.rec (motive := fun _ => List ZFO) (Bool.rec (motive := fun _ => List ZFO) (Bool.rec (motive := fun _ => List ZFO) (Bool.rec (motive := fun _ => List ZFO) (Bool.rec (motive := fun _ => List ZFO) (Bool.rec (motive := fun _ => List ZFO) (Bool.rec (motive := fun _ => List ZFO) (Bool.rec (motive := fun _ => List ZFO) ([]) q_15_135 (Nat.beq t 135)) q_15_129 (Nat.beq t 129)) q_15_104 (Nat.beq t 104)) q_15_102 (Nat.beq t 102)) q_15_64 (Nat.beq t 64)) q_15_44 (Nat.beq t 44)) q_15_20 (Nat.beq t 20)) q_15_18 (Nat.beq t 18)
noncomputable def q_16_105 : List ZFO := oRV :: []
noncomputable def q_16_99 : List ZFO := oInc 2 1 :: oGo 7 :: q_16_105
noncomputable def q_16_58 : List ZFO := oSI 3 :: oLI 3 :: oEq 99 :: oLA 0 :: oGr 1 1 :: oLI 2 :: oBal :: oNe 99 :: oLA 0 :: oGr 1 1 :: oLI 2 :: oK 1 :: oBas :: oLA 0 :: oGr 1 2 :: oLA 0 :: oGf 1 3 :: oLI 2 :: oIas :: oLA 0 :: oDup :: oGf 1 3 :: oK 1 :: oAdd :: oPf 1 3 :: q_16_99
noncomputable def q_16_57 : List ZFO := oK 0 :: q_16_58
noncomputable def q_16_53 : List ZFO := oK 1 :: oGo 58 :: q_16_57
noncomputable def q_16_7 : List ZFO := oLI 2 :: oLA 0 :: oGr 1 0 :: oGf 3 11 :: oIge 105 :: oLA 0 :: oGf 1 3 :: oK 40 :: oIge 105 :: oLA 0 :: oGr 1 0 :: oGr 3 7 :: oLI 2 :: oIal :: oLI 1 :: oIeq 53 :: oLA 0 :: oGr 1 0 :: oGr 3 8 :: oLI 2 :: oIal :: oLI 1 :: oIne 57 :: q_16_53
noncomputable def q_16_5 : List ZFO := oK 0 :: oSI 2 :: q_16_7
noncomputable def q_16_0 : List ZFO := oLI 1 :: oNe 5 :: oRV :: q_16_5
noncomputable def j_16 (t : Nat) : List ZFO := Bool.rec (motive := fun _ => List ZFO) (Bool.rec (motive := fun _ => List ZFO) (Bool.rec (motive := fun _ => List ZFO) (Bool.rec (motive := fun _ => List ZFO) (Bool.rec (motive := fun _ => List ZFO) (Bool.rec (motive := fun _ => List ZFO) (Bool.rec (motive := fun _ => List ZFO) ([]) q_16_105 (Nat.beq t 105)) q_16_99 (Nat.beq t 99)) q_16_58 (Nat.beq t 58)) q_16_57 (Nat.beq t 57)) q_16_53 (Nat.beq t 53)) q_16_7 (Nat.beq t 7)) q_16_5 (Nat.beq t 5)
noncomputable def q_17_73 : List ZFO := oRV :: []
noncomputable def q_17_0 : List ZFO := oLA 0 :: oGf 1 7 :: oK 40 :: oIge 73 :: oLA 0 :: oGr 1 4 :: oLA 0 :: oGf 1 7 :: oLA 0 :: oGr 1 0 :: oGr 3 1 :: oLI 1 :: oIal :: oIas :: oLA 0 :: oGr 1 5 :: oLA 0 :: oGf 1 7 :: oLA 0 :: oGr 1 0 :: oGr 3 7 :: oLI 1 :: oIal :: oIas :: oLA 0 :: oGr 1 6 :: oLA 0 :: oGf 1 7 :: oLA 0 :: oGr 1 0 :: oGr 3 8 :: oLI 1 :: oIal :: oIas :: oLA 0 :: oDup :: oGf 1 7 :: oK 1 :: oAdd :: oPf 1 7 :: q_17_73
noncomputable def j_17 (t : Nat) : List ZFO := Bool.rec (motive := fun _ => List ZFO) ([]) q_17_73 (Nat.beq t 73)
noncomputable def q_18_49 : List ZFO := oLI 2 :: oRI 4294967295 :: []
noncomputable def q_18_43 : List ZFO := oInc 3 1 :: oGo 4 :: q_18_49
noncomputable def q_18_36 : List ZFO := oLA 0 :: oGr 1 5 :: oLI 3 :: oIal :: oSI 2 :: q_18_43
noncomputable def q_18_4 : List ZFO := oLI 3 :: oLA 0 :: oGf 1 7 :: oIge 49 :: oLA 0 :: oGr 1 5 :: oLI 3 :: oIal :: oLI 1 :: oIle 43 :: oLI 2 :: oEq 36 :: oLA 0 :: oGr 1 5 :: oLI 3 :: oIal :: oLI 2 :: oIge 43 :: q_18_36
noncomputable def q_18_0 : List ZFO := oK 0 :: oSI 2 :: oK 0 :: oSI 3 :: q_18_4
noncomputable def j_18 (t : Nat) : List ZFO := Bool.rec (motive := fun _ => List ZFO) (Bool.rec (motive := fun _ => List ZFO) (Bool.rec (motive := fun _ => List ZFO) (Bool.rec (motive := fun _ => List ZFO) ([]) q_18_49 (Nat.beq t 49)) q_18_43 (Nat.beq t 43)) q_18_36 (Nat.beq t 36)) q_18_4 (Nat.beq t 4)
noncomputable def q_19_0 : List ZFO := oLA 0 :: oObj :: oLA 0 :: oK 600 :: oNa 51 :: oPr 2 0 :: oLA 0 :: oK 0 :: oPf 2 1 :: oLA 0 :: oK 4294967295 :: oPf 2 2 :: oLA 0 :: oK 0 :: oPf 2 3 :: oLA 0 :: oK 0 :: oPf 2 4 :: oLA 0 :: oK 0 :: oPf 2 5 :: oLA 0 :: oK 0 :: oPf 2 6 :: oLA 0 :: oK 4294967295 :: oPf 2 7 :: oRV :: []
noncomputable def j_19 (t : Nat) : List ZFO := []
noncomputable def q_20_17 : List ZFO := oRI 1 :: []
noncomputable def q_20_16 : List ZFO := oK 0 :: q_20_17
noncomputable def q_20_0 : List ZFO := oLA 0 :: oGf 2 1 :: oLI 1 :: oAdd :: oK 600 :: oIgt 16 :: oK 1 :: oGo 17 :: q_20_16
noncomputable def j_20 (t : Nat) : List ZFO := Bool.rec (motive := fun _ => List ZFO) (Bool.rec (motive := fun _ => List ZFO) ([]) q_20_17 (Nat.beq t 17)) q_20_16 (Nat.beq t 16)
noncomputable def q_21_46 : List ZFO := oRV :: []
noncomputable def q_21_3 : List ZFO := oLI 2 :: oLt 46 :: oLA 0 :: oGf 2 1 :: oK 600 :: oIge 46 :: oLA 0 :: oGr 2 0 :: oLA 0 :: oGf 2 1 :: oLI 1 :: oLI 2 :: oShr :: oI2b :: oBas :: oLA 0 :: oDup :: oGf 2 1 :: oK 1 :: oAdd :: oPf 2 1 :: oInc 2 4294967288 :: oGo 3 :: q_21_46
noncomputable def q_21_0 : List ZFO := oK 24 :: oSI 2 :: q_21_3
noncomputable def j_21 (t : Nat) : List ZFO := Bool.rec (motive := fun _ => List ZFO) (Bool.rec (motive := fun _ => List ZFO) ([]) q_21_46 (Nat.beq t 46)) q_21_3 (Nat.beq t 3)
noncomputable def q_22_0 : List ZFO := oLA 0 :: oK 0 :: oPf 2 1 :: oLA 0 :: oK 0 :: oLI 1 :: oK 600 :: oMin :: oMax :: oPf 2 5 :: oLA 0 :: oK 0 :: oPf 2 4 :: oLA 0 :: oK 0 :: oPf 2 6 :: oLA 0 :: oK 4294967295 :: oPf 2 7 :: oLA 0 :: oCal 23 0 2 :: oRV :: []
noncomputable def j_22 (t : Nat) : List ZFO := []
noncomputable def q_23_154 : List ZFO := oRV :: []
noncomputable def q_23_127 : List ZFO := oLA 0 :: oLA 0 :: oGr 2 0 :: oLA 0 :: oGf 2 4 :: oBal :: oK 255 :: oAnd :: oPf 2 2 :: oLA 0 :: oDup :: oGf 2 4 :: oK 1 :: oAdd :: oPf 2 4 :: q_23_154
noncomputable def q_23_87 : List ZFO := oLA 0 :: oGf 2 4 :: oLA 0 :: oGf 2 5 :: oIge 154 :: oLA 0 :: oLA 0 :: oGr 2 0 :: oLA 0 :: oGf 2 4 :: oBal :: oCal 24 1 2 :: oEq 154 :: oLA 0 :: oDup :: oGf 2 4 :: oK 1 :: oAdd :: oPf 2 4 :: oGo 87 :: q_23_127
noncomputable def q_23_65 : List ZFO := oLA 0 :: oLA 0 :: oGr 2 0 :: oLA 0 :: oGf 2 4 :: oBal :: oCal 24 1 2 :: oEq 127 :: oLA 0 :: oK 4294967294 :: oPf 2 2 :: q_23_87
noncomputable def q_23_38 : List ZFO := oLA 0 :: oLA 0 :: oGf 2 4 :: oPf 2 3 :: oLA 0 :: oGf 2 4 :: oLA 0 :: oGf 2 5 :: oIlt 65 :: oLA 0 :: oK 4294967295 :: oPf 2 2 :: oGo 154 :: q_23_65
noncomputable def q_23_0 : List ZFO := oLA 0 :: oGf 2 4 :: oLA 0 :: oGf 2 5 :: oIge 38 :: oLA 0 :: oGr 2 0 :: oLA 0 :: oGf 2 4 :: oBal :: oK 32 :: oIne 38 :: oLA 0 :: oDup :: oGf 2 4 :: oK 1 :: oAdd :: oPf 2 4 :: oGo 0 :: q_23_38
noncomputable def j_23 (t : Nat) : List ZFO := Bool.rec (motive := fun _ => List ZFO) (Bool.rec (motive := fun _ => List ZFO) (Bool.rec (motive := fun _ => List ZFO) (Bool.rec (motive := fun _ => List ZFO) (Bool.rec (motive := fun _ => List ZFO) (Bool.rec (motive := fun _ => List ZFO) ([]) q_23_154 (Nat.beq t 154)) q_23_127 (Nat.beq t 127)) q_23_87 (Nat.beq t 87)) q_23_65 (Nat.beq t 65)) q_23_38 (Nat.beq t 38)) q_23_0 (Nat.beq t 0)
noncomputable def q_24_17 : List ZFO := oRI 1 :: []
noncomputable def q_24_16 : List ZFO := oK 0 :: q_24_17
noncomputable def q_24_0 : List ZFO := oLI 1 :: oK 97 :: oIlt 16 :: oLI 1 :: oK 122 :: oIgt 16 :: oK 1 :: oGo 17 :: q_24_16
noncomputable def j_24 (t : Nat) : List ZFO := Bool.rec (motive := fun _ => List ZFO) (Bool.rec (motive := fun _ => List ZFO) ([]) q_24_17 (Nat.beq t 17)) q_24_16 (Nat.beq t 16)
noncomputable def q_25_0 : List ZFO := oLA 0 :: oLI 1 :: oPf 2 6 :: oLA 0 :: oLA 0 :: oGf 2 3 :: oPf 2 7 :: oK 0 :: oRI 1 :: []
noncomputable def j_25 (t : Nat) : List ZFO := []
noncomputable def q_26_22 : List ZFO := oRI 1 :: []
noncomputable def q_26_21 : List ZFO := oK 0 :: q_26_22
noncomputable def q_26_17 : List ZFO := oK 1 :: oGo 22 :: q_26_21
noncomputable def q_26_0 : List ZFO := oLA 0 :: oGf 2 2 :: oK 4294967295 :: oIeq 17 :: oLA 0 :: oK 4294967284 :: oCal 25 1 2 :: oEq 21 :: q_26_17
noncomputable def j_26 (t : Nat) : List ZFO := Bool.rec (motive := fun _ => List ZFO) (Bool.rec (motive := fun _ => List ZFO) (Bool.rec (motive := fun _ => List ZFO) ([]) q_26_22 (Nat.beq t 22)) q_26_21 (Nat.beq t 21)) q_26_17 (Nat.beq t 17)
noncomputable def q_27_15 : List ZFO := oLA 0 :: oCal 23 0 2 :: oK 1 :: oRI 1 :: []
noncomputable def q_27_0 : List ZFO := oLA 0 :: oGf 2 2 :: oLI 1 :: oIeq 15 :: oLA 0 :: oK 4294967284 :: oCal 25 1 2 :: oRI 1 :: q_27_15
noncomputable def j_27 (t : Nat) : List ZFO := Bool.rec (motive := fun _ => List ZFO) ([]) q_27_15 (Nat.beq t 15)
noncomputable def q_28_15 : List ZFO := oLA 0 :: oCal 23 0 2 :: oK 1 :: oRI 1 :: []
noncomputable def q_28_0 : List ZFO := oLA 0 :: oLA 1 :: oCal 29 1 2 :: oNe 15 :: oLA 0 :: oK 4294967284 :: oCal 25 1 2 :: oRI 1 :: q_28_15
noncomputable def j_28 (t : Nat) : List ZFO := Bool.rec (motive := fun _ => List ZFO) ([]) q_28_15 (Nat.beq t 15)
noncomputable def q_29_76 : List ZFO := oK 1 :: oRI 1 :: []
noncomputable def q_29_70 : List ZFO := oInc 2 1 :: oGo 29 :: q_29_76
noncomputable def q_29_29 : List ZFO := oLI 2 :: oLA 1 :: oLen 112 :: oIge 76 :: oLA 0 :: oGf 2 3 :: oLI 2 :: oAdd :: oK 600 :: oIge 76 :: oLA 0 :: oGr 2 0 :: oLA 0 :: oGf 2 3 :: oLI 2 :: oAdd :: oBal :: oLA 1 :: oLI 2 :: oChr 113 :: oIeq 70 :: oK 0 :: oRI 1 :: q_29_70
noncomputable def q_29_27 : List ZFO := oK 0 :: oSI 2 :: q_29_29
noncomputable def q_29_25 : List ZFO := oK 0 :: oRI 1 :: q_29_27
noncomputable def q_29_0 : List ZFO := oLA 0 :: oGf 2 2 :: oK 4294967294 :: oIne 25 :: oLA 0 :: oGf 2 4 :: oLA 0 :: oGf 2 3 :: oSub :: oLA 1 :: oLen 112 :: oIeq 27 :: q_29_25
noncomputable def j_29 (t : Nat) : List ZFO := Bool.rec (motive := fun _ => List ZFO) (Bool.rec (motive := fun _ => List ZFO) (Bool.rec (motive := fun _ => List ZFO) (Bool.rec (motive := fun _ => List ZFO) (Bool.rec (motive := fun _ => List ZFO) ([]) q_29_76 (Nat.beq t 76)) q_29_70 (Nat.beq t 70)) q_29_29 (Nat.beq t 29)) q_29_27 (Nat.beq t 27)) q_29_25 (Nat.beq t 25)
noncomputable def q_30_69 : List ZFO := oLI 1 :: oRI 4294967295 :: []
noncomputable def q_30_32 : List ZFO := oLI 2 :: oLA 0 :: oGf 2 4 :: oIge 69 :: oLI 2 :: oK 600 :: oIge 69 :: oLI 1 :: oK 5 :: oShl :: oLA 0 :: oGr 2 0 :: oLI 2 :: oBal :: oK 97 :: oSub :: oK 1 :: oAdd :: oOr :: oSI 1 :: oInc 2 1 :: oGo 32 :: q_30_69
noncomputable def q_30_25 : List ZFO := oK 0 :: oSI 1 :: oLA 0 :: oGf 2 3 :: oSI 2 :: q_30_32
noncomputable def q_30_23 : List ZFO := oK 0 :: oRI 4294967295 :: q_30_25
noncomputable def q_30_0 : List ZFO := oLA 0 :: oGf 2 2 :: oK 4294967294 :: oIne 23 :: oLA 0 :: oGf 2 4 :: oLA 0 :: oGf 2 3 :: oSub :: oK 6 :: oIle 25 :: q_30_23
noncomputable def j_30 (t : Nat) : List ZFO := Bool.rec (motive := fun _ => List ZFO) (Bool.rec (motive := fun _ => List ZFO) (Bool.rec (motive := fun _ => List ZFO) (Bool.rec (motive := fun _ => List ZFO) ([]) q_30_69 (Nat.beq t 69)) q_30_32 (Nat.beq t 32)) q_30_25 (Nat.beq t 25)) q_30_23 (Nat.beq t 23)
noncomputable def q_31_0 : List ZFO := oLA 0 :: oObj :: oLA 0 :: oNew 8 5 :: oDup :: oCal 65 0 8 :: oPr 3 0 :: oLA 0 :: oK 40 :: oNa 50 :: oPr 3 1 :: oLA 0 :: oK 40 :: oNa 50 :: oPr 3 2 :: oLA 0 :: oK 40 :: oNa 50 :: oPr 3 3 :: oLA 0 :: oK 40 :: oNa 50 :: oPr 3 4 :: oLA 0 :: oK 40 :: oNa 50 :: oPr 3 5 :: oLA 0 :: oK 40 :: oNa 50 :: oPr 3 6 :: oLA 0 :: oK 40 :: oNa 50 :: oPr 3 7 :: oLA 0 :: oK 40 :: oNa 50 :: oPr 3 8 :: oLA 0 :: oK 40 :: oNa 50 :: oPr 3 9 :: oLA 0 :: oK 40 :: oNa 50 :: oPr 3 10 :: oLA 0 :: oK 0 :: oPf 3 11 :: oLA 0 :: oK 0 :: oPf 3 12 :: oLA 0 :: oK 0 :: oPf 3 13 :: oLA 0 :: oK 0 :: oPf 3 14 :: oRV :: []
noncomputable def j_31 (t : Nat) : List ZFO := []
noncomputable def q_32_0 : List ZFO := oLA 0 :: oK 0 :: oPf 3 11 :: oLA 0 :: oK 1 :: oPf 3 12 :: oLA 0 :: oK 0 :: oPf 3 13 :: oLA 0 :: oK 0 :: oPf 3 14 :: oLA 0 :: oK 0 :: oLI 1 :: oK 0 :: oCal 33 3 3 :: oPop :: oRV :: []
noncomputable def j_32 (t : Nat) : List ZFO := []
noncomputable def q_33_11 : List ZFO := oLA 0 :: oGf 3 11 :: oSI 4 :: oLA 0 :: oGr 3 1 :: oLI 4 :: oLA 0 :: oGf 3 13 :: oIas :: oLA 0 :: oGr 3 2 :: oLI 4 :: oLI 1 :: oIas :: oLA 0 :: oGr 3 3 :: oLI 4 :: oLI 2 :: oIas :: oLA 0 :: oGr 3 4 :: oLI 4 :: oLI 3 :: oIas :: oLA 0 :: oGr 3 5 :: oLI 4 :: oK 4294967295 :: oIas :: oLA 0 :: oGr 3 6 :: oLI 4 :: oK 4294967295 :: oIas :: oLA 0 :: oGr 3 7 :: oLI 4 :: oK 0 :: oIas :: oLA 0 :: oGr 3 8 :: oLI 4 :: oK 0 :: oIas :: oLA 0 :: oGr 3 9 :: oLI 4 :: oK 0 :: oIas :: oLA 0 :: oGr 3 10 :: oLI 4 :: oK 0 :: oIas :: oLA 0 :: oDup :: oGf 3 11 :: oK 1 :: oAdd :: oPf 3 11 :: oLA 0 :: oDup :: oGf 3 13 :: oK 1 :: oAdd :: oPf 3 13 :: oLI 4 :: oRI 4294967295 :: []
noncomputable def q_33_0 : List ZFO := oLA 0 :: oGf 3 11 :: oK 40 :: oIlt 11 :: oK 4294967295 :: oRI 4294967295 :: q_33_11
noncomputable def j_33 (t : Nat) : List ZFO := Bool.rec (motive := fun _ => List ZFO) ([]) q_33_11 (Nat.beq t 11)
noncomputable def q_34_34 : List ZFO := oRV :: []
noncomputable def q_34_12 : List ZFO := oLI 2 :: oLA 0 :: oGf 3 11 :: oIge 34 :: oLA 0 :: oLI 2 :: oK 1 :: oAdd :: oLI 2 :: oCal 35 2 3 :: oInc 2 1 :: oGo 12 :: q_34_34
noncomputable def q_34_0 : List ZFO := oLA 0 :: oDup :: oGf 3 11 :: oK 1 :: oSub :: oPf 3 11 :: oLI 1 :: oSI 2 :: q_34_12
noncomputable def j_34 (t : Nat) : List ZFO := Bool.rec (motive := fun _ => List ZFO) (Bool.rec (motive := fun _ => List ZFO) ([]) q_34_34 (Nat.beq t 34)) q_34_12 (Nat.beq t 12)
noncomputable def q_35_0 : List ZFO := oLA 0 :: oGr 3 1 :: oLI 2 :: oLA 0 :: oGr 3 1 :: oLI 1 :: oIal :: oIas :: oLA 0 :: oGr 3 2 :: oLI 2 :: oLA 0 :: oGr 3 2 :: oLI 1 :: oIal :: oIas :: oLA 0 :: oGr 3 3 :: oLI 2 :: oLA 0 :: oGr 3 3 :: oLI 1 :: oIal :: oIas :: oLA 0 :: oGr 3 4 :: oLI 2 :: oLA 0 :: oGr 3 4 :: oLI 1 :: oIal :: oIas :: oLA 0 :: oGr 3 5 :: oLI 2 :: oLA 0 :: oGr 3 5 :: oLI 1 :: oIal :: oIas :: oLA 0 :: oGr 3 6 :: oLI 2 :: oLA 0 :: oGr 3 6 :: oLI 1 :: oIal :: oIas :: oLA 0 :: oGr 3 7 :: oLI 2 :: oLA 0 :: oGr 3 7 :: oLI 1 :: oIal :: oIas :: oLA 0 :: oGr 3 8 :: oLI 2 :: oLA 0 :: oGr 3 8 :: oLI 1 :: oIal :: oIas :: oLA 0 :: oGr 3 9 :: oLI 2 :: oLA 0 :: oGr 3 9 :: oLI 1 :: oIal :: oIas :: oLA 0 :: oGr 3 10 :: oLI 2 :: oLA 0 :: oGr 3 10 :: oLI 1 :: oIal :: oIas :: oRV :: []
noncomputable def j_35 (t : Nat) : List ZFO := []
noncomputable def q_36_0 : List ZFO := oLA 0 :: oDup :: oGf 3 14 :: oK 1 :: oAdd :: oPf 3 14 :: oLA 0 :: oGf 3 14 :: oRI 4294967295 :: []
noncomputable def j_36 (t : Nat) : List ZFO := []
noncomputable def q_37_28 : List ZFO := oK 4294967295 :: oRI 4294967295 :: []
noncomputable def q_37_22 : List ZFO := oInc 2 1 :: oGo 2 :: q_37_28
noncomputable def q_37_2 : List ZFO := oLI 2 :: oLA 0 :: oGf 3 11 :: oIge 28 :: oLA 0 :: oGr 3 1 :: oLI 2 :: oIal :: oLI 1 :: oIne 22 :: oLI 2 :: oRI 4294967295 :: q_37_22
noncomputable def q_37_0 : List ZFO := oK 0 :: oSI 2 :: q_37_2
noncomputable def j_37 (t : Nat) : List ZFO := Bool.rec (motive := fun _ => List ZFO) (Bool.rec (motive := fun _ => List ZFO) (Bool.rec (motive := fun _ => List ZFO) ([]) q_37_28 (Nat.beq t 28)) q_37_22 (Nat.beq t 22)) q_37_2 (Nat.beq t 2)
noncomputable def q_38_43 : List ZFO := oK 4294967295 :: oRI 4294967295 :: []
noncomputable def q_38_37 : List ZFO := oInc 3 1 :: oGo 2 :: q_38_43
noncomputable def q_38_2 : List ZFO := oLI 3 :: oLA 0 :: oGf 3 11 :: oIge 43 :: oLA 0 :: oGr 3 5 :: oLI 3 :: oIal :: oLA 0 :: oGr 3 1 :: oLI 1 :: oIal :: oIne 37 :: oLA 0 :: oGr 3 6 :: oLI 3 :: oIal :: oLI 2 :: oIne 37 :: oLI 3 :: oRI 4294967295 :: q_38_37
noncomputable def q_38_0 : List ZFO := oK 0 :: oSI 3 :: q_38_2
noncomputable def j_38 (t : Nat) : List ZFO := Bool.rec (motive := fun _ => List ZFO) (Bool.rec (motive := fun _ => List ZFO) (Bool.rec (motive := fun _ => List ZFO) ([]) q_38_43 (Nat.beq t 43)) q_38_37 (Nat.beq t 37)) q_38_2 (Nat.beq t 2)
noncomputable def q_39_23 : List ZFO := oRI 4294967295 :: []
noncomputable def q_39_13 : List ZFO := oLA 0 :: oLA 0 :: oGr 3 5 :: oLI 1 :: oIal :: oCal 37 1 3 :: q_39_23
noncomputable def q_39_0 : List ZFO := oLA 0 :: oGr 3 5 :: oLI 1 :: oIal :: oGe 13 :: oK 4294967295 :: oGo 23 :: q_39_13
noncomputable def j_39 (t : Nat) : List ZFO := Bool.rec (motive := fun _ => List ZFO) (Bool.rec (motive := fun _ => List ZFO) ([]) q_39_23 (Nat.beq t 23)) q_39_13 (Nat.beq t 13)
noncomputable def q_40_33 : List ZFO := oK 0 :: oRI 1 :: []
noncomputable def q_40_27 : List ZFO := oInc 2 1 :: oGo 2 :: q_40_33
noncomputable def q_40_2 : List ZFO := oLI 2 :: oLA 0 :: oGf 3 11 :: oIge 33 :: oLA 0 :: oGr 3 5 :: oLI 2 :: oIal :: oLA 0 :: oGr 3 1 :: oLI 1 :: oIal :: oIne 27 :: oK 1 :: oRI 1 :: q_40_27
noncomputable def q_40_0 : List ZFO := oK 0 :: oSI 2 :: q_40_2
noncomputable def j_40 (t : Nat) : List ZFO := Bool.rec (motive := fun _ => List ZFO) (Bool.rec (motive := fun _ => List ZFO) (Bool.rec (motive := fun _ => List ZFO) ([]) q_40_33 (Nat.beq t 33)) q_40_27 (Nat.beq t 27)) q_40_2 (Nat.beq t 2)
noncomputable def q_41_37 : List ZFO := oK 0 :: oRI 4294967295 :: []
noncomputable def q_41_31 : List ZFO := oInc 2 1 :: oGo 2 :: q_41_37
noncomputable def q_41_2 : List ZFO := oLI 2 :: oLA 0 :: oGf 3 11 :: oIge 37 :: oLA 0 :: oGr 3 2 :: oLI 2 :: oIal :: oLI 1 :: oIne 31 :: oLA 0 :: oGr 3 5 :: oLI 2 :: oIal :: oGe 31 :: oLI 2 :: oRI 4294967295 :: q_41_31
noncomputable def q_41_0 : List ZFO := oK 0 :: oSI 2 :: q_41_2
noncomputable def j_41 (t : Nat) : List ZFO := Bool.rec (motive := fun _ => List ZFO) (Bool.rec (motive := fun _ => List ZFO) (Bool.rec (motive := fun _ => List ZFO) ([]) q_41_37 (Nat.beq t 37)) q_41_31 (Nat.beq t 31)) q_41_2 (Nat.beq t 2)
noncomputable def q_42_70 : List ZFO := oK 0 :: oRI 1 :: []
noncomputable def q_42_49 : List ZFO := oLA 0 :: oGr 3 0 :: oLA 0 :: oGr 3 3 :: oLI 1 :: oIal :: oLI 3 :: oCal 70 2 8 :: oSI 3 :: oInc 4 1 :: oGo 26 :: q_42_70
noncomputable def q_42_26 : List ZFO := oLI 4 :: oK 12 :: oIge 70 :: oLI 3 :: oLt 70 :: oLI 3 :: oLA 0 :: oGr 3 4 :: oLI 1 :: oIal :: oIne 49 :: oK 1 :: oRI 1 :: q_42_49
noncomputable def q_42_22 : List ZFO := oSI 3 :: oK 0 :: oSI 4 :: q_42_26
noncomputable def q_42_21 : List ZFO := oK 4294967295 :: q_42_22
noncomputable def q_42_0 : List ZFO := oLI 2 :: oLA 0 :: oGr 3 0 :: oLA 0 :: oGr 3 3 :: oLI 1 :: oIal :: oCal 69 1 8 :: oIge 21 :: oLI 2 :: oGo 22 :: q_42_21
noncomputable def j_42 (t : Nat) : List ZFO := Bool.rec (motive := fun _ => List ZFO) (Bool.rec (motive := fun _ => List ZFO) (Bool.rec (motive := fun _ => List ZFO) (Bool.rec (motive := fun _ => List ZFO) (Bool.rec (motive := fun _ => List ZFO) ([]) q_42_70 (Nat.beq t 70)) q_42_49 (Nat.beq t 49)) q_42_26 (Nat.beq t 26)) q_42_22 (Nat.beq t 22)) q_42_21 (Nat.beq t 21)
noncomputable def q_43_107 : List ZFO := oLA 0 :: oGf 3 14 :: oRI 4294967295 :: []
noncomputable def q_43_102 : List ZFO := oLA 0 :: oGf 3 13 :: oRI 4294967295 :: q_43_107
noncomputable def q_43_93 : List ZFO := oLA 0 :: oLA 0 :: oGr 3 10 :: oCal 44 1 3 :: oRI 4294967295 :: q_43_102
noncomputable def q_43_84 : List ZFO := oLA 0 :: oLA 0 :: oGr 3 9 :: oCal 44 1 3 :: oRI 4294967295 :: q_43_93
noncomputable def q_43_75 : List ZFO := oLA 0 :: oLA 0 :: oGr 3 8 :: oCal 44 1 3 :: oRI 4294967295 :: q_43_84
noncomputable def q_43_66 : List ZFO := oLA 0 :: oLA 0 :: oGr 3 7 :: oCal 44 1 3 :: oRI 4294967295 :: q_43_75
noncomputable def q_43_61 : List ZFO := oLA 0 :: oGf 3 11 :: oRI 4294967295 :: q_43_66
noncomputable def q_43_56 : List ZFO := oLA 0 :: oGf 3 12 :: oRI 4294967295 :: q_43_61
noncomputable def q_43_48 : List ZFO := oLA 0 :: oGr 3 0 :: oGf 8 4 :: oRI 4294967295 :: q_43_56
noncomputable def q_43_0 : List ZFO := oLI 1 :: oSw 107 [48, 56, 61, 66, 75, 84, 93, 102] :: q_43_48
noncomputable def j_43 (t : Nat) : List ZFO := Bool.rec (motive := fun _ => List ZFO) (Bool.rec (motive := fun _ => List ZFO) (Bool.rec (motive := fun _ => List ZFO) (Bool.rec (motive := fun _ => List ZFO) (Bool.rec (motive := fun _ => List ZFO) (Bool.rec (motive := fun _ => List ZFO) (Bool.rec (motive := fun _ => List ZFO) (Bool.rec (motive := fun _ => List ZFO) (Bool.rec (motive := fun _ => List ZFO) ([]) q_43_107 (Nat.beq t 107)) q_43_102 (Nat.beq t 102)) q_43_93 (Nat.beq t 93)) q_43_84 (Nat.beq t 84)) q_43_75 (Nat.beq t 75)) q_43_66 (Nat.beq t 66)) q_43_61 (Nat.beq t 61)) q_43_56 (Nat.beq t 56)) q_43_48 (Nat.beq t 48)
noncomputable def q_44_27 : List ZFO := oLI 2 :: oRI 4294967295 :: []
noncomputable def q_44_21 : List ZFO := oInc 3 1 :: oGo 4 :: q_44_27
noncomputable def q_44_4 : List ZFO := oLI 3 :: oLA 0 :: oGf 3 11 :: oIge 27 :: oLA 1 :: oLI 3 :: oIal :: oEq 21 :: oInc 2 1 :: q_44_21
noncomputable def q_44_0 : List ZFO := oK 0 :: oSI 2 :: oK 0 :: oSI 3 :: q_44_4
noncomputable def j_44 (t : Nat) : List ZFO := Bool.rec (motive := fun _ => List ZFO) (Bool.rec (motive := fun _ => List ZFO) (Bool.rec (motive := fun _ => List ZFO) ([]) q_44_27 (Nat.beq t 27)) q_44_21 (Nat.beq t 21)) q_44_4 (Nat.beq t 4)
noncomputable def q_45_104 : List ZFO := oLA 0 :: oGr 3 10 :: oLI 1 :: oIal :: oRI 4294967295 :: []
noncomputable def q_45_97 : List ZFO := oLA 0 :: oGr 3 9 :: oLI 1 :: oIal :: oRI 4294967295 :: q_45_104
noncomputable def q_45_90 : List ZFO := oLA 0 :: oGr 3 8 :: oLI 1 :: oIal :: oRI 4294967295 :: q_45_97
noncomputable def q_45_83 : List ZFO := oLA 0 :: oGr 3 7 :: oLI 1 :: oIal :: oRI 4294967295 :: q_45_90
noncomputable def q_45_76 : List ZFO := oLA 0 :: oGr 3 6 :: oLI 1 :: oIal :: oRI 4294967295 :: q_45_83
noncomputable def q_45_69 : List ZFO := oLA 0 :: oGr 3 5 :: oLI 1 :: oIal :: oRI 4294967295 :: q_45_76
noncomputable def q_45_62 : List ZFO := oLA 0 :: oGr 3 4 :: oLI 1 :: oIal :: oRI 4294967295 :: q_45_69
noncomputable def q_45_55 : List ZFO := oLA 0 :: oGr 3 3 :: oLI 1 :: oIal :: oRI 4294967295 :: q_45_62
noncomputable def q_45_48 : List ZFO := oLA 0 :: oGr 3 2 :: oLI 1 :: oIal :: oRI 4294967295 :: q_45_55
noncomputable def q_45_0 : List ZFO := oLI 2 :: oSw 104 [48, 55, 62, 69, 76, 83, 90, 97] :: q_45_48
noncomputable def j_45 (t : Nat) : List ZFO := Bool.rec (motive := fun _ => List ZFO) (Bool.rec (motive := fun _ => List ZFO) (Bool.rec (motive := fun _ => List ZFO) (Bool.rec (motive := fun _ => List ZFO) (Bool.rec (motive := fun _ => List ZFO) (Bool.rec (motive := fun _ => List ZFO) (Bool.rec (motive := fun _ => List ZFO) (Bool.rec (motive := fun _ => List ZFO) (Bool.rec (motive := fun _ => List ZFO) ([]) q_45_104 (Nat.beq t 104)) q_45_97 (Nat.beq t 97)) q_45_90 (Nat.beq t 90)) q_45_83 (Nat.beq t 83)) q_45_76 (Nat.beq t 76)) q_45_69 (Nat.beq t 69)) q_45_62 (Nat.beq t 62)) q_45_55 (Nat.beq t 55)) q_45_48 (Nat.beq t 48)
noncomputable def q_46_0 : List ZFO := oLA 0 :: oGr 3 0 :: oLA 1 :: oGr 3 0 :: oCal 73 1 8 :: oLA 0 :: oLA 1 :: oGf 3 11 :: oPf 3 11 :: oLA 0 :: oLA 1 :: oGf 3 12 :: oPf 3 12 :: oLA 0 :: oLA 1 :: oGf 3 13 :: oPf 3 13 :: oLA 0 :: oLA 1 :: oGf 3 14 :: oPf 3 14 :: oLA 1 :: oGr 3 1 :: oK 0 :: oLA 0 :: oGr 3 1 :: oK 0 :: oLA 0 :: oGf 3 11 :: oCpy :: oLA 1 :: oGr 3 2 :: oK 0 :: oLA 0 :: oGr 3 2 :: oK 0 :: oLA 0 :: oGf 3 11 :: oCpy :: oLA 1 :: oGr 3 3 :: oK 0 :: oLA 0 :: oGr 3 3 :: oK 0 :: oLA 0 :: oGf 3 11 :: oCpy :: oLA 1 :: oGr 3 4 :: oK 0 :: oLA 0 :: oGr 3 4 :: oK 0 :: oLA 0 :: oGf 3 11 :: oCpy :: oLA 1 :: oGr 3 5 :: oK 0 :: oLA 0 :: oGr 3 5 :: oK 0 :: oLA 0 :: oGf 3 11 :: oCpy :: oLA 1 :: oGr 3 6 :: oK 0 :: oLA 0 :: oGr 3 6 :: oK 0 :: oLA 0 :: oGf 3 11 :: oCpy :: oLA 1 :: oGr 3 7 :: oK 0 :: oLA 0 :: oGr 3 7 :: oK 0 :: oLA 0 :: oGf 3 11 :: oCpy :: oLA 1 :: oGr 3 8 :: oK 0 :: oLA 0 :: oGr 3 8 :: oK 0 :: oLA 0 :: oGf 3 11 :: oCpy :: oLA 1 :: oGr 3 9 :: oK 0 :: oLA 0 :: oGr 3 9 :: oK 0 :: oLA 0 :: oGf 3 11 :: oCpy :: oLA 1 :: oGr 3 10 :: oK 0 :: oLA 0 :: oGr 3 10 :: oK 0 :: oLA 0 :: oGf 3 11 :: oCpy :: oRV :: []
noncomputable def j_46 (t : Nat) : List ZFO := []
noncomputable def q_47_50 : List ZFO := oRV :: []
noncomputable def q_47_25 : List ZFO := oLI 1 :: oK 8 :: oIge 50 :: oLA 0 :: oGr 4 0 :: oLI 1 :: oNew 3 15 :: oDup :: oCal 31 0 3 :: oAas :: oInc 1 1 :: oGo 25 :: q_47_50
noncomputable def q_47_0 : List ZFO := oLA 0 :: oObj :: oLA 0 :: oK 8 :: oNa 53 :: oPr 4 0 :: oLA 0 :: oK 0 :: oPf 4 1 :: oLA 0 :: oK 0 :: oPf 4 2 :: oK 0 :: oSI 1 :: q_47_25
noncomputable def j_47 (t : Nat) : List ZFO := Bool.rec (motive := fun _ => List ZFO) (Bool.rec (motive := fun _ => List ZFO) ([]) q_47_50 (Nat.beq t 50)) q_47_25 (Nat.beq t 25)
noncomputable def q_48_62 : List ZFO := oRV :: []
noncomputable def q_48_49 : List ZFO := oLA 0 :: oLA 0 :: oGf 4 1 :: oK 1 :: oAdd :: oK 8 :: oRem :: oPf 4 1 :: q_48_62
noncomputable def q_48_0 : List ZFO := oLA 0 :: oGr 4 0 :: oLA 0 :: oGf 4 1 :: oLA 0 :: oGf 4 2 :: oAdd :: oK 8 :: oRem :: oAal :: oSA 2 :: oLA 2 :: oNul :: oLA 2 :: oLA 1 :: oCal 46 1 3 :: oLA 0 :: oGf 4 2 :: oK 8 :: oIge 49 :: oLA 0 :: oDup :: oGf 4 2 :: oK 1 :: oAdd :: oPf 4 2 :: oGo 62 :: q_48_49
noncomputable def j_48 (t : Nat) : List ZFO := Bool.rec (motive := fun _ => List ZFO) (Bool.rec (motive := fun _ => List ZFO) ([]) q_48_62 (Nat.beq t 62)) q_48_49 (Nat.beq t 49)
noncomputable def q_49_0 : List ZFO := oLA 0 :: oObj :: oLA 0 :: oK 40 :: oNa 50 :: oPr 5 1 :: oLA 0 :: oK 12 :: oNa 50 :: oPr 5 2 :: oLA 0 :: oK 3360 :: oNa 51 :: oPr 5 3 :: oLA 0 :: oK 0 :: oPf 5 4 :: oLA 0 :: oLA 1 :: oPr 5 0 :: oRV :: []
noncomputable def j_49 (t : Nat) : List ZFO := []
noncomputable def q_50_0 : List ZFO := oLA 0 :: oObj :: oLA 0 :: oLA 1 :: oPr 6 0 :: oLA 0 :: oLA 2 :: oPr 6 1 :: oLA 0 :: oLA 2 :: oGr 3 0 :: oPr 6 2 :: oLA 0 :: oNew 0 6 :: oDup :: oLA 2 :: oCal 0 1 0 :: oPr 6 3 :: oLA 0 :: oNew 9 3 :: oDup :: oLA 2 :: oCal 74 1 9 :: oPr 6 4 :: oRV :: []
noncomputable def j_50 (t : Nat) : List ZFO := []
noncomputable def q_51_51 : List ZFO := oRI 1 :: []
noncomputable def q_51_50 : List ZFO := oK 0 :: q_51_51
noncomputable def q_51_0 : List ZFO := oLA 0 :: oGr 6 2 :: oK 0 :: oPf 8 4 :: oLA 0 :: oGr 6 0 :: oK 8589934592 :: oCal 28 1 2 :: oEq 50 :: oLA 0 :: oGr 6 0 :: oK 59 :: oCal 27 1 2 :: oEq 50 :: oLA 0 :: oCal 52 0 6 :: oEq 50 :: oLA 0 :: oCal 56 0 6 :: oEq 50 :: oK 1 :: oGo 51 :: q_51_50
noncomputable def j_51 (t : Nat) : List ZFO := Bool.rec (motive := fun _ => List ZFO) (Bool.rec (motive := fun _ => List ZFO) ([]) q_51_51 (Nat.beq t 51)) q_51_50 (Nat.beq t 50)
noncomputable def q_52_89 : List ZFO := oLA 0 :: oGr 6 0 :: oK 4294967281 :: oCal 25 1 2 :: oRI 1 :: []
noncomputable def q_52_83 : List ZFO := oInc 1 1 :: oGo 2 :: q_52_89
noncomputable def q_52_67 : List ZFO := oLA 0 :: oGr 6 0 :: oCal 23 0 2 :: oLA 0 :: oCal 53 0 6 :: oNe 83 :: oK 0 :: oRI 1 :: q_52_83
noncomputable def q_52_47 : List ZFO := oLA 0 :: oGr 6 2 :: oCal 66 0 8 :: oEq 67 :: oLA 0 :: oGr 6 0 :: oK 4294967281 :: oCal 25 1 2 :: oRI 1 :: q_52_67
noncomputable def q_52_25 : List ZFO := oLA 0 :: oGr 6 0 :: oK 8589934594 :: oCal 29 1 2 :: oNe 47 :: oLA 0 :: oGr 6 0 :: oK 4294967284 :: oCal 25 1 2 :: oRI 1 :: q_52_47
noncomputable def q_52_2 : List ZFO := oLI 1 :: oK 4 :: oIgt 89 :: oLI 1 :: oLe 25 :: oLA 0 :: oGr 6 0 :: oK 8589934593 :: oCal 29 1 2 :: oEq 25 :: oK 1 :: oRI 1 :: q_52_25
noncomputable def q_52_0 : List ZFO := oK 0 :: oSI 1 :: q_52_2
noncomputable def j_52 (t : Nat) : List ZFO := Bool.rec (motive := fun _ => List ZFO) (Bool.rec (motive := fun _ => List ZFO) (Bool.rec (motive := fun _ => List ZFO) (Bool.rec (motive := fun _ => List ZFO) (Bool.rec (motive := fun _ => List ZFO) (Bool.rec (motive := fun _ => List ZFO) ([]) q_52_89 (Nat.beq t 89)) q_52_83 (Nat.beq t 83)) q_52_67 (Nat.beq t 67)) q_52_47 (Nat.beq t 47)) q_52_25 (Nat.beq t 25)) q_52_2 (Nat.beq t 2)
noncomputable def q_53_93 : List ZFO := oRI 1 :: []
noncomputable def q_53_92 : List ZFO := oK 0 :: q_53_93
noncomputable def q_53_43 : List ZFO := oLA 0 :: oGr 6 2 :: oLI 1 :: oCal 67 1 8 :: oLA 0 :: oGr 6 0 :: oCal 23 0 2 :: oLA 0 :: oLA 0 :: oGr 6 2 :: oGf 8 4 :: oK 1 :: oSub :: oK 0 :: oK 0 :: oCal 54 3 6 :: oEq 92 :: oLA 0 :: oGr 6 0 :: oK 59 :: oCal 27 1 2 :: oEq 92 :: oK 1 :: oGo 93 :: q_53_92
noncomputable def q_53_22 : List ZFO := oLA 0 :: oGr 6 2 :: oLI 1 :: oCal 71 1 8 :: oLt 43 :: oLA 0 :: oGr 6 0 :: oK 4294967282 :: oCal 25 1 2 :: oRI 1 :: q_53_43
noncomputable def q_53_0 : List ZFO := oLA 0 :: oGr 6 0 :: oCal 30 0 2 :: oSI 1 :: oLI 1 :: oNe 22 :: oLA 0 :: oGr 6 0 :: oK 4294967284 :: oCal 25 1 2 :: oRI 1 :: q_53_22
noncomputable def j_53 (t : Nat) : List ZFO := Bool.rec (motive := fun _ => List ZFO) (Bool.rec (motive := fun _ => List ZFO) (Bool.rec (motive := fun _ => List ZFO) (Bool.rec (motive := fun _ => List ZFO) ([]) q_53_93 (Nat.beq t 93)) q_53_92 (Nat.beq t 92)) q_53_43 (Nat.beq t 43)) q_53_22 (Nat.beq t 22)
noncomputable def q_54_95 : List ZFO := oLA 0 :: oGr 6 0 :: oK 4294967281 :: oCal 25 1 2 :: oRI 1 :: []
noncomputable def q_54_82 : List ZFO := oLA 0 :: oGr 6 0 :: oCal 23 0 2 :: oInc 4 1 :: oGo 39 :: q_54_95
noncomputable def q_54_60 : List ZFO := oLA 0 :: oGr 6 0 :: oGf 2 2 :: oK 44 :: oIeq 82 :: oLA 0 :: oGr 6 0 :: oK 41 :: oCal 27 1 2 :: oRI 1 :: q_54_82
noncomputable def q_54_39 : List ZFO := oLI 4 :: oK 12 :: oIge 95 :: oLA 0 :: oLI 1 :: oLI 2 :: oLI 3 :: oK 1 :: oAdd :: oCal 55 3 6 :: oNe 60 :: oK 0 :: oRI 1 :: q_54_60
noncomputable def q_54_29 : List ZFO := oLA 0 :: oGr 6 0 :: oCal 23 0 2 :: oK 0 :: oSI 4 :: q_54_39
noncomputable def q_54_14 : List ZFO := oLI 3 :: oK 5 :: oIlt 29 :: oLA 0 :: oGr 6 0 :: oK 4294967281 :: oCal 25 1 2 :: oRI 1 :: q_54_29
noncomputable def q_54_0 : List ZFO := oLA 0 :: oGr 6 0 :: oGf 2 2 :: oK 40 :: oIeq 14 :: oK 1 :: oRI 1 :: q_54_14
noncomputable def j_54 (t : Nat) : List ZFO := Bool.rec (motive := fun _ => List ZFO) (Bool.rec (motive := fun _ => List ZFO) (Bool.rec (motive := fun _ => List ZFO) (Bool.rec (motive := fun _ => List ZFO) (Bool.rec (motive := fun _ => List ZFO) (Bool.rec (motive := fun _ => List ZFO) ([]) q_54_95 (Nat.beq t 95)) q_54_82 (Nat.beq t 82)) q_54_60 (Nat.beq t 60)) q_54_39 (Nat.beq t 39)) q_54_29 (Nat.beq t 29)) q_54_14 (Nat.beq t 14)
noncomputable def q_55_76 : List ZFO := oLA 0 :: oGr 6 0 :: oCal 23 0 2 :: oLA 0 :: oLI 1 :: oLI 5 :: oLI 3 :: oCal 54 3 6 :: oRI 1 :: []
noncomputable def q_55_48 : List ZFO := oLA 0 :: oGr 6 2 :: oLI 1 :: oLI 2 :: oLI 4 :: oCal 68 3 8 :: oSI 5 :: oLI 5 :: oGe 76 :: oLA 0 :: oGr 6 0 :: oK 4294967281 :: oCal 25 1 2 :: oRI 1 :: q_55_76
noncomputable def q_55_24 : List ZFO := oLA 0 :: oGr 6 2 :: oLI 1 :: oLI 2 :: oLI 4 :: oCal 72 3 8 :: oLt 48 :: oLA 0 :: oGr 6 0 :: oK 4294967282 :: oCal 25 1 2 :: oRI 1 :: q_55_48
noncomputable def q_55_0 : List ZFO := oLA 0 :: oGr 6 0 :: oCal 30 0 2 :: oSI 4 :: oLI 4 :: oNe 24 :: oLA 0 :: oGr 6 0 :: oK 4294967284 :: oCal 25 1 2 :: oRI 1 :: q_55_24
noncomputable def j_55 (t : Nat) : List ZFO := Bool.rec (motive := fun _ => List ZFO) (Bool.rec (motive := fun _ => List ZFO) (Bool.rec (motive := fun _ => List ZFO) ([]) q_55_76 (Nat.beq t 76)) q_55_48 (Nat.beq t 48)) q_55_24 (Nat.beq t 24)
noncomputable def q_56_18 : List ZFO := oLA 0 :: oGr 6 1 :: oLI 1 :: oCal 32 1 3 :: oLA 0 :: oGr 6 0 :: oK 59 :: oCal 27 1 2 :: oRI 1 :: []
noncomputable def q_56_0 : List ZFO := oLA 0 :: oGr 6 0 :: oCal 23 0 2 :: oLA 0 :: oCal 57 0 6 :: oSI 1 :: oLI 1 :: oGe 18 :: oK 0 :: oRI 1 :: q_56_18
noncomputable def j_56 (t : Nat) : List ZFO := Bool.rec (motive := fun _ => List ZFO) ([]) q_56_18 (Nat.beq t 18)
noncomputable def q_57_50 : List ZFO := oLA 0 :: oGr 6 0 :: oCal 23 0 2 :: oLI 2 :: oRI 4294967295 :: []
noncomputable def q_57_44 : List ZFO := oCal 25 1 2 :: oPop :: oK 4294967295 :: oRI 4294967295 :: q_57_50
noncomputable def q_57_42 : List ZFO := oK 4294967283 :: q_57_44
noncomputable def q_57_24 : List ZFO := oSI 2 :: oLI 2 :: oGe 50 :: oLA 0 :: oGr 6 0 :: oLI 1 :: oNe 42 :: oK 4294967284 :: oGo 44 :: q_57_42
noncomputable def q_57_16 : List ZFO := oLA 0 :: oGr 6 2 :: oLI 1 :: oCal 71 1 8 :: q_57_24
noncomputable def q_57_0 : List ZFO := oLA 0 :: oGr 6 0 :: oCal 30 0 2 :: oSI 1 :: oLI 1 :: oNe 16 :: oK 4294967295 :: oGo 24 :: q_57_16
noncomputable def j_57 (t : Nat) : List ZFO := Bool.rec (motive := fun _ => List ZFO) (Bool.rec (motive := fun _ => List ZFO) (Bool.rec (motive := fun _ => List ZFO) (Bool.rec (motive := fun _ => List ZFO) (Bool.rec (motive := fun _ => List ZFO) ([]) q_57_50 (Nat.beq t 50)) q_57_44 (Nat.beq t 44)) q_57_42 (Nat.beq t 42)) q_57_24 (Nat.beq t 24)) q_57_16 (Nat.beq t 16)
noncomputable def q_58_75 : List ZFO := oLA 0 :: oGr 6 0 :: oCal 26 0 2 :: oRI 1 :: []
noncomputable def q_58_69 : List ZFO := oInc 1 1 :: oGo 2 :: q_58_75
noncomputable def q_58_62 : List ZFO := oSI 2 :: oLI 2 :: oNe 69 :: oK 0 :: oRI 1 :: q_58_69
noncomputable def q_58_58 : List ZFO := oLA 0 :: oCal 62 0 6 :: q_58_62
noncomputable def q_58_39 : List ZFO := oLA 0 :: oGr 6 0 :: oK 8589934596 :: oCal 29 1 2 :: oEq 58 :: oLA 0 :: oCal 60 0 6 :: oGo 62 :: q_58_58
noncomputable def q_58_2 : List ZFO := oLI 1 :: oK 600 :: oIge 75 :: oLA 0 :: oGr 6 0 :: oGf 2 2 :: oK 4294967295 :: oIeq 75 :: oLA 0 :: oGr 6 0 :: oK 8589934595 :: oCal 29 1 2 :: oEq 39 :: oLA 0 :: oCal 59 0 6 :: oGo 62 :: q_58_39
noncomputable def q_58_0 : List ZFO := oK 0 :: oSI 1 :: q_58_2
noncomputable def j_58 (t : Nat) : List ZFO := Bool.rec (motive := fun _ => List ZFO) (Bool.rec (motive := fun _ => List ZFO) (Bool.rec (motive := fun _ => List ZFO) (Bool.rec (motive := fun _ => List ZFO) (Bool.rec (motive := fun _ => List ZFO) (Bool.rec (motive := fun _ => List ZFO) ([]) q_58_75 (Nat.beq t 75)) q_58_69 (Nat.beq t 69)) q_58_62 (Nat.beq t 62)) q_58_58 (Nat.beq t 58)) q_58_39 (Nat.beq t 39)) q_58_2 (Nat.beq t 2)
noncomputable def q_59_33 : List ZFO := oLA 0 :: oLA 0 :: oGr 6 3 :: oLA 0 :: oGr 6 4 :: oGf 9 1 :: oLA 0 :: oGr 6 4 :: oGf 9 2 :: oLI 1 :: oCal 1 3 0 :: oCal 61 1 6 :: oRI 1 :: []
noncomputable def q_59_31 : List ZFO := oK 0 :: oRI 1 :: q_59_33
noncomputable def q_59_0 : List ZFO := oLA 0 :: oGr 6 0 :: oCal 23 0 2 :: oLA 0 :: oCal 57 0 6 :: oSI 1 :: oLI 1 :: oLt 31 :: oLA 0 :: oGr 6 4 :: oLA 0 :: oGr 6 0 :: oK 0 :: oCal 77 2 9 :: oNe 33 :: q_59_31
noncomputable def j_59 (t : Nat) : List ZFO := Bool.rec (motive := fun _ => List ZFO) (Bool.rec (motive := fun _ => List ZFO) ([]) q_59_33 (Nat.beq t 33)) q_59_31 (Nat.beq t 31)
noncomputable def q_60_69 : List ZFO := oLA 0 :: oLA 0 :: oGr 6 3 :: oLI 1 :: oLI 2 :: oLA 0 :: oGr 6 4 :: oGf 9 1 :: oLA 0 :: oGr 6 4 :: oGf 9 2 :: oCal 2 4 0 :: oCal 61 1 6 :: oRI 1 :: []
noncomputable def q_60_67 : List ZFO := oK 0 :: oRI 1 :: q_60_69
noncomputable def q_60_24 : List ZFO := oLA 0 :: oGr 6 4 :: oGf 9 1 :: oSI 1 :: oLA 0 :: oGr 6 4 :: oGf 9 2 :: oSI 2 :: oLA 0 :: oGr 6 0 :: oK 62 :: oCal 27 1 2 :: oEq 67 :: oLA 0 :: oGr 6 4 :: oLA 0 :: oGr 6 0 :: oK 0 :: oCal 77 2 9 :: oNe 69 :: q_60_67
noncomputable def q_60_0 : List ZFO := oLA 0 :: oGr 6 0 :: oCal 23 0 2 :: oLA 0 :: oGr 6 4 :: oLA 0 :: oGr 6 0 :: oK 0 :: oCal 77 2 9 :: oNe 24 :: oK 0 :: oRI 1 :: q_60_24
noncomputable def j_60 (t : Nat) : List ZFO := Bool.rec (motive := fun _ => List ZFO) (Bool.rec (motive := fun _ => List ZFO) (Bool.rec (motive := fun _ => List ZFO) ([]) q_60_69 (Nat.beq t 69)) q_60_67 (Nat.beq t 67)) q_60_24 (Nat.beq t 24)
noncomputable def q_61_26 : List ZFO := oLA 0 :: oGr 6 0 :: oK 59 :: oCal 27 1 2 :: oRI 1 :: []
noncomputable def q_61_0 : List ZFO := oLA 0 :: oGr 6 0 :: oGf 2 2 :: oK 59 :: oIne 26 :: oLI 1 :: oGe 26 :: oLA 0 :: oGr 6 0 :: oK 4294967280 :: oCal 25 1 2 :: oRI 1 :: q_61_26
noncomputable def j_61 (t : Nat) : List ZFO := Bool.rec (motive := fun _ => List ZFO) ([]) q_61_26 (Nat.beq t 26)
noncomputable def q_62_57 : List ZFO := oLA 0 :: oGr 6 3 :: oLA 0 :: oGr 6 4 :: oGf 9 1 :: oLI 1 :: oCal 10 2 0 :: oPop :: oLA 0 :: oGr 6 0 :: oK 59 :: oCal 27 1 2 :: oRI 1 :: []
noncomputable def q_62_33 : List ZFO := oLA 0 :: oGr 6 0 :: oCal 23 0 2 :: oLA 0 :: oGr 6 4 :: oLA 0 :: oGr 6 0 :: oK 0 :: oCal 77 2 9 :: oNe 57 :: oK 0 :: oRI 1 :: q_62_57
noncomputable def q_62_14 : List ZFO := oLA 0 :: oCal 63 0 6 :: oSI 1 :: oLI 1 :: oGe 33 :: oLA 0 :: oGr 6 0 :: oK 4294967284 :: oCal 25 1 2 :: oRI 1 :: q_62_33
noncomputable def q_62_0 : List ZFO := oLA 0 :: oGr 6 0 :: oK 8589934597 :: oCal 28 1 2 :: oNe 14 :: oK 0 :: oRI 1 :: q_62_14
noncomputable def j_62 (t : Nat) : List ZFO := Bool.rec (motive := fun _ => List ZFO) (Bool.rec (motive := fun _ => List ZFO) (Bool.rec (motive := fun _ => List ZFO) ([]) q_62_57 (Nat.beq t 57)) q_62_33 (Nat.beq t 33)) q_62_14 (Nat.beq t 14)
noncomputable def q_63_59 : List ZFO := oRI 4294967295 :: []
noncomputable def q_63_58 : List ZFO := oK 4294967295 :: q_63_59
noncomputable def q_63_42 : List ZFO := oLA 0 :: oGr 6 0 :: oK 8589934601 :: oCal 29 1 2 :: oEq 58 :: oK 3 :: oGo 59 :: q_63_58
noncomputable def q_63_28 : List ZFO := oLA 0 :: oGr 6 0 :: oK 8589934600 :: oCal 29 1 2 :: oEq 42 :: oK 2 :: oRI 4294967295 :: q_63_42
noncomputable def q_63_14 : List ZFO := oLA 0 :: oGr 6 0 :: oK 8589934599 :: oCal 29 1 2 :: oEq 28 :: oK 1 :: oRI 4294967295 :: q_63_28
noncomputable def q_63_0 : List ZFO := oLA 0 :: oGr 6 0 :: oK 8589934598 :: oCal 29 1 2 :: oEq 14 :: oK 0 :: oRI 4294967295 :: q_63_14
noncomputable def j_63 (t : Nat) : List ZFO := Bool.rec (motive := fun _ => List ZFO) (Bool.rec (motive := fun _ => List ZFO) (Bool.rec (motive := fun _ => List ZFO) (Bool.rec (motive := fun _ => List ZFO) (Bool.rec (motive := fun _ => List ZFO) ([]) q_63_59 (Nat.beq t 59)) q_63_58 (Nat.beq t 58)) q_63_42 (Nat.beq t 42)) q_63_28 (Nat.beq t 28)) q_63_14 (Nat.beq t 14)
noncomputable def q_64_0 : List ZFO := oLA 0 :: oObj :: oLA 0 :: oK 480 :: oNa 50 :: oPr 7 2 :: oLA 0 :: oK 480 :: oNa 50 :: oPr 7 3 :: oLA 0 :: oK 0 :: oPf 7 4 :: oLA 0 :: oLA 1 :: oPr 7 0 :: oLA 0 :: oNew 9 3 :: oDup :: oLA 1 :: oCal 74 1 9 :: oPr 7 1 :: oRV :: []
noncomputable def j_64 (t : Nat) : List ZFO := []
noncomputable def q_65_0 : List ZFO := oLA 0 :: oObj :: oLA 0 :: oK 4 :: oNa 50 :: oPr 8 0 :: oLA 0 :: oK 4 :: oNa 50 :: oPr 8 1 :: oLA 0 :: oK 48 :: oNa 50 :: oPr 8 2 :: oLA 0 :: oK 48 :: oNa 50 :: oPr 8 3 :: oLA 0 :: oK 0 :: oPf 8 4 :: oRV :: []
noncomputable def j_65 (t : Nat) : List ZFO := []
noncomputable def q_66_13 : List ZFO := oRI 1 :: []
noncomputable def q_66_12 : List ZFO := oK 0 :: q_66_13
noncomputable def q_66_0 : List ZFO := oLA 0 :: oGf 8 4 :: oK 4 :: oIlt 12 :: oK 1 :: oGo 13 :: q_66_12
noncomputable def j_66 (t : Nat) : List ZFO := Bool.rec (motive := fun _ => List ZFO) (Bool.rec (motive := fun _ => List ZFO) ([]) q_66_13 (Nat.beq t 13)) q_66_12 (Nat.beq t 12)
noncomputable def q_67_51 : List ZFO := oRV :: []
noncomputable def q_67_0 : List ZFO := oLA 0 :: oGf 8 4 :: oK 4 :: oIge 51 :: oLA 0 :: oGr 8 0 :: oLA 0 :: oGf 8 4 :: oLI 1 :: oIas :: oLA 0 :: oGr 8 1 :: oLA 0 :: oGf 8 4 :: oK 0 :: oIas :: oLA 0 :: oDup :: oGf 8 4 :: oK 1 :: oAdd :: oPf 8 4 :: oLA 0 :: oLA 0 :: oGf 8 4 :: oK 1 :: oSub :: oK 4294967295 :: oK 0 :: oCal 68 3 8 :: oPop :: q_67_51
noncomputable def j_67 (t : Nat) : List ZFO := Bool.rec (motive := fun _ => List ZFO) ([]) q_67_51 (Nat.beq t 51)
noncomputable def q_68_17 : List ZFO := oLA 0 :: oGr 8 2 :: oLI 1 :: oK 12 :: oMul :: oLI 4 :: oAdd :: oLI 3 :: oIas :: oLA 0 :: oGr 8 3 :: oLI 1 :: oK 12 :: oMul :: oLI 4 :: oAdd :: oLI 2 :: oIas :: oLA 0 :: oGr 8 1 :: oLI 1 :: oD2 :: oIal :: oK 1 :: oAdd :: oIas :: oLI 4 :: oRI 4294967295 :: []
noncomputable def q_68_0 : List ZFO := oLA 0 :: oGr 8 1 :: oLI 1 :: oIal :: oSI 4 :: oLI 4 :: oK 12 :: oIlt 17 :: oK 4294967295 :: oRI 4294967295 :: q_68_17
noncomputable def j_68 (t : Nat) : List ZFO := Bool.rec (motive := fun _ => List ZFO) ([]) q_68_17 (Nat.beq t 17)
noncomputable def q_69_0 : List ZFO := oLA 0 :: oGr 8 1 :: oLI 1 :: oIal :: oRI 4294967295 :: []
noncomputable def j_69 (t : Nat) : List ZFO := []
noncomputable def q_70_0 : List ZFO := oLA 0 :: oGr 8 3 :: oLI 1 :: oK 12 :: oMul :: oLI 2 :: oAdd :: oIal :: oRI 4294967295 :: []
noncomputable def j_70 (t : Nat) : List ZFO := []
noncomputable def q_71_28 : List ZFO := oK 4294967295 :: oRI 4294967295 :: []
noncomputable def q_71_22 : List ZFO := oInc 2 1 :: oGo 2 :: q_71_28
noncomputable def q_71_2 : List ZFO := oLI 2 :: oLA 0 :: oGf 8 4 :: oIge 28 :: oLA 0 :: oGr 8 0 :: oLI 2 :: oIal :: oLI 1 :: oIne 22 :: oLI 2 :: oRI 4294967295 :: q_71_22
noncomputable def q_71_0 : List ZFO := oK 0 :: oSI 2 :: q_71_2
noncomputable def j_71 (t : Nat) : List ZFO := Bool.rec (motive := fun _ => List ZFO) (Bool.rec (motive := fun _ => List ZFO) (Bool.rec (motive := fun _ => List ZFO) ([]) q_71_28 (Nat.beq t 28)) q_71_22 (Nat.beq t 22)) q_71_2 (Nat.beq t 2)
noncomputable def q_72_54 : List ZFO := oK 4294967295 :: oRI 4294967295 :: []
noncomputable def q_72_48 : List ZFO := oInc 4 1 :: oGo 3 :: q_72_54
noncomputable def q_72_3 : List ZFO := oLI 4 :: oLA 0 :: oGr 8 1 :: oLI 1 :: oIal :: oIge 54 :: oLI 1 :: oK 12 :: oMul :: oLI 4 :: oAdd :: oSI 5 :: oLA 0 :: oGr 8 3 :: oLI 5 :: oIal :: oLI 2 :: oIne 48 :: oLA 0 :: oGr 8 2 :: oLI 5 :: oIal :: oLI 3 :: oIne 48 :: oLI 4 :: oRI 4294967295 :: q_72_48
noncomputable def q_72_0 : List ZFO := oK 1 :: oSI 4 :: q_72_3
noncomputable def j_72 (t : Nat) : List ZFO := Bool.rec (motive := fun _ => List ZFO) (Bool.rec (motive := fun _ => List ZFO) (Bool.rec (motive := fun _ => List ZFO) ([]) q_72_54 (Nat.beq t 54)) q_72_48 (Nat.beq t 48)) q_72_3 (Nat.beq t 3)
noncomputable def q_73_0 : List ZFO := oLA 0 :: oLA 1 :: oGf 8 4 :: oPf 8 4 :: oLA 1 :: oGr 8 0 :: oK 0 :: oLA 0 :: oGr 8 0 :: oK 0 :: oLA 0 :: oGr 8 0 :: oAln :: oCpy :: oLA 1 :: oGr 8 1 :: oK 0 :: oLA 0 :: oGr 8 1 :: oK 0 :: oLA 0 :: oGr 8 1 :: oAln :: oCpy :: oLA 1 :: oGr 8 2 :: oK 0 :: oLA 0 :: oGr 8 2 :: oK 0 :: oLA 0 :: oGr 8 2 :: oAln :: oCpy :: oLA 1 :: oGr 8 3 :: oK 0 :: oLA 0 :: oGr 8 3 :: oK 0 :: oLA 0 :: oGr 8 3 :: oAln :: oCpy :: oRV :: []
noncomputable def j_73 (t : Nat) : List ZFO := []
noncomputable def q_74_0 : List ZFO := oLA 0 :: oObj :: oLA 0 :: oK 0 :: oPf 9 1 :: oLA 0 :: oK 0 :: oPf 9 2 :: oLA 0 :: oLA 1 :: oPr 9 0 :: oRV :: []
noncomputable def j_74 (t : Nat) : List ZFO := []
noncomputable def q_75_80 : List ZFO := oRV :: []
noncomputable def q_75_29 : List ZFO := oLI 4 :: oK 40 :: oIge 80 :: oLI 3 :: oLt 80 :: oLA 0 :: oLI 3 :: oPf 9 1 :: oLA 0 :: oLA 0 :: oGr 9 0 :: oGr 3 4 :: oLI 3 :: oIal :: oPf 9 2 :: oLA 0 :: oGr 9 0 :: oLA 0 :: oGf 9 1 :: oLA 0 :: oGf 9 2 :: oCal 38 2 3 :: oSI 3 :: oInc 4 1 :: oGo 29 :: q_75_80
noncomputable def q_75_0 : List ZFO := oLA 0 :: oLI 1 :: oPf 9 1 :: oLA 0 :: oLI 2 :: oPf 9 2 :: oLA 0 :: oGr 9 0 :: oLA 0 :: oGf 9 1 :: oLA 0 :: oGf 9 2 :: oCal 38 2 3 :: oSI 3 :: oK 0 :: oSI 4 :: q_75_29
noncomputable def j_75 (t : Nat) : List ZFO := Bool.rec (motive := fun _ => List ZFO) (Bool.rec (motive := fun _ => List ZFO) ([]) q_75_80 (Nat.beq t 80)) q_75_29 (Nat.beq t 29)
noncomputable def q_76_0 : List ZFO := oLA 0 :: oGr 9 0 :: oLI 1 :: oCal 41 1 3 :: oSI 2 :: oLA 0 :: oLI 2 :: oLA 0 :: oGr 9 0 :: oGr 3 4 :: oLI 2 :: oIal :: oCal 75 2 9 :: oRV :: []
noncomputable def j_76 (t : Nat) : List ZFO := []
noncomputable def q_77_67 : List ZFO := oLA 1 :: oK 4294967284 :: oCal 25 1 2 :: oRI 1 :: []
noncomputable def q_77_57 : List ZFO := oLA 1 :: oCal 23 0 2 :: oInc 3 1 :: oGo 29 :: q_77_67
noncomputable def q_77_46 : List ZFO := oLA 1 :: oGf 2 2 :: oK 47 :: oIeq 57 :: oK 1 :: oRI 1 :: q_77_57
noncomputable def q_77_29 : List ZFO := oLI 3 :: oK 600 :: oIge 67 :: oLA 0 :: oLA 1 :: oCal 78 1 9 :: oNe 46 :: oK 0 :: oRI 1 :: q_77_46
noncomputable def q_77_27 : List ZFO := oK 0 :: oSI 3 :: q_77_29
noncomputable def q_77_11 : List ZFO := oLA 0 :: oLI 2 :: oCal 76 1 9 :: oLA 1 :: oGf 2 2 :: oK 4294967294 :: oIeq 27 :: oK 1 :: oRI 1 :: q_77_27
noncomputable def q_77_0 : List ZFO := oLA 1 :: oK 47 :: oCal 27 1 2 :: oNe 11 :: oK 0 :: oRI 1 :: q_77_11
noncomputable def j_77 (t : Nat) : List ZFO := Bool.rec (motive := fun _ => List ZFO) (Bool.rec (motive := fun _ => List ZFO) (Bool.rec (motive := fun _ => List ZFO) (Bool.rec (motive := fun _ => List ZFO) (Bool.rec (motive := fun _ => List ZFO) (Bool.rec (motive := fun _ => List ZFO) ([]) q_77_67 (Nat.beq t 67)) q_77_57 (Nat.beq t 57)) q_77_46 (Nat.beq t 46)) q_77_29 (Nat.beq t 29)) q_77_27 (Nat.beq t 27)) q_77_11 (Nat.beq t 11)
noncomputable def q_78_55 : List ZFO := oLA 0 :: oLA 0 :: oGf 9 1 :: oLI 3 :: oCal 75 2 9 :: oLA 1 :: oCal 23 0 2 :: oK 1 :: oRI 1 :: []
noncomputable def q_78_16 : List ZFO := oLA 0 :: oGr 9 0 :: oGr 3 0 :: oLA 0 :: oGr 9 0 :: oGr 3 3 :: oLA 0 :: oGf 9 1 :: oIal :: oLA 0 :: oGf 9 2 :: oLI 2 :: oCal 72 3 8 :: oSI 3 :: oLI 3 :: oGe 55 :: oLA 1 :: oK 4294967283 :: oCal 25 1 2 :: oRI 1 :: q_78_55
noncomputable def q_78_0 : List ZFO := oLA 1 :: oCal 30 0 2 :: oSI 2 :: oLI 2 :: oNe 16 :: oLA 1 :: oK 4294967284 :: oCal 25 1 2 :: oRI 1 :: q_78_16
noncomputable def j_78 (t : Nat) : List ZFO := Bool.rec (motive := fun _ => List ZFO) (Bool.rec (motive := fun _ => List ZFO) ([]) q_78_55 (Nat.beq t 55)) q_78_16 (Nat.beq t 16)
noncomputable def q_79_0 : List ZFO := oLA 0 :: oObj :: oLA 0 :: oNew 2 8 :: oDup :: oCal 19 0 2 :: oPr 10 0 :: oLA 0 :: oK 4294967295 :: oPf 10 1 :: oLA 0 :: oNew 3 15 :: oDup :: oCal 31 0 3 :: oPr 10 2 :: oLA 0 :: oNew 0 6 :: oDup :: oLA 0 :: oGr 10 2 :: oCal 0 1 0 :: oPr 10 3 :: oLA 0 :: oNew 9 3 :: oDup :: oLA 0 :: oGr 10 2 :: oCal 74 1 9 :: oPr 10 4 :: oLA 0 :: oNew 1 8 :: oDup :: oLA 0 :: oGr 10 2 :: oCal 14 1 1 :: oPr 10 5 :: oLA 0 :: oNew 7 5 :: oDup :: oLA 0 :: oGr 10 2 :: oCal 64 1 7 :: oPr 10 6 :: oLA 0 :: oNew 5 5 :: oDup :: oLA 0 :: oGr 10 2 :: oCal 49 1 5 :: oPr 10 7 :: oLA 0 :: oNew 3 15 :: oDup :: oCal 31 0 3 :: oPr 10 8 :: oLA 0 :: oNew 6 5 :: oDup :: oLA 0 :: oGr 10 0 :: oLA 0 :: oGr 10 8 :: oCal 50 2 6 :: oPr 10 9 :: oLA 0 :: oNew 4 3 :: oDup :: oCal 47 0 4 :: oPr 10 10 :: oLA 0 :: oGr 10 2 :: oGr 3 0 :: oK 0 :: oCal 67 1 8 :: oLA 0 :: oGr 10 2 :: oK 0 :: oCal 32 1 3 :: oRV :: []
noncomputable def j_79 (t : Nat) : List ZFO := []
noncomputable def q_80_14 : List ZFO := oLA 0 :: oGr 10 0 :: oLI 1 :: oCal 21 1 2 :: oLA 0 :: oGr 10 0 :: oLI 2 :: oCal 21 1 2 :: oLA 0 :: oGr 10 0 :: oLI 3 :: oCal 21 1 2 :: oLA 0 :: oGr 10 0 :: oLI 4 :: oCal 21 1 2 :: oLA 0 :: oGr 10 0 :: oLI 5 :: oCal 21 1 2 :: oLA 0 :: oGr 10 0 :: oGf 2 1 :: oRI 4294967295 :: []
noncomputable def q_80_0 : List ZFO := oLA 0 :: oGr 10 0 :: oK 20 :: oCal 20 1 2 :: oNe 14 :: oK 4294967295 :: oRI 4294967295 :: q_80_14
noncomputable def j_80 (t : Nat) : List ZFO := Bool.rec (motive := fun _ => List ZFO) ([]) q_80_14 (Nat.beq t 14)
noncomputable def q_81_62 : List ZFO := oLA 0 :: oGr 10 10 :: oLA 0 :: oGr 10 2 :: oCal 48 1 4 :: oLA 0 :: oGr 10 2 :: oLA 0 :: oGr 10 8 :: oCal 46 1 3 :: oLA 0 :: oGr 10 2 :: oGf 3 11 :: oRI 4294967295 :: []
noncomputable def q_81_38 : List ZFO := oSI 2 :: oLA 0 :: oLA 0 :: oGr 10 0 :: oGf 2 7 :: oPf 10 1 :: oLI 2 :: oNe 62 :: oLA 0 :: oGr 10 0 :: oGf 2 6 :: oRI 4294967295 :: q_81_62
noncomputable def q_81_37 : List ZFO := oK 0 :: q_81_38
noncomputable def q_81_0 : List ZFO := oLA 0 :: oLI 1 :: oCal 82 1 10 :: oLA 0 :: oGr 10 0 :: oLI 1 :: oCal 22 1 2 :: oLA 0 :: oGr 10 9 :: oCal 51 0 6 :: oEq 37 :: oLA 0 :: oGr 10 9 :: oCal 58 0 6 :: oEq 37 :: oK 1 :: oGo 38 :: q_81_37
noncomputable def j_81 (t : Nat) : List ZFO := Bool.rec (motive := fun _ => List ZFO) (Bool.rec (motive := fun _ => List ZFO) (Bool.rec (motive := fun _ => List ZFO) ([]) q_81_62 (Nat.beq t 62)) q_81_38 (Nat.beq t 38)) q_81_37 (Nat.beq t 37)
noncomputable def q_82_25 : List ZFO := oRV :: []
noncomputable def q_82_15 : List ZFO := oNo :: oDup :: oNo :: oNo :: oNo :: q_82_25
noncomputable def q_82_0 : List ZFO := oLI 1 :: oLt 15 :: oLI 1 :: oLA 0 :: oGr 10 0 :: oGf 2 1 :: oIle 25 :: q_82_15
noncomputable def j_82 (t : Nat) : List ZFO := Bool.rec (motive := fun _ => List ZFO) (Bool.rec (motive := fun _ => List ZFO) ([]) q_82_25 (Nat.beq t 25)) q_82_15 (Nat.beq t 15)
noncomputable def q_83_20 : List ZFO := oLA 0 :: oGr 10 2 :: oLI 1 :: oCal 43 1 3 :: oRI 4294967295 :: []
noncomputable def q_83_10 : List ZFO := oNo :: oDup :: oNo :: oNo :: oNo :: q_83_20
noncomputable def q_83_0 : List ZFO := oLI 1 :: oLt 10 :: oLI 1 :: oK 8 :: oIle 20 :: q_83_10
noncomputable def j_83 (t : Nat) : List ZFO := Bool.rec (motive := fun _ => List ZFO) (Bool.rec (motive := fun _ => List ZFO) ([]) q_83_20 (Nat.beq t 20)) q_83_10 (Nat.beq t 10)
noncomputable def q_84_28 : List ZFO := oRV :: []
noncomputable def q_84_18 : List ZFO := oNo :: oDup :: oNo :: oNo :: oNo :: q_84_28
noncomputable def q_84_0 : List ZFO := oLI 1 :: oLt 18 :: oLI 1 :: oLA 0 :: oGr 10 2 :: oGr 3 0 :: oGf 8 4 :: oIlt 28 :: q_84_18
noncomputable def j_84 (t : Nat) : List ZFO := Bool.rec (motive := fun _ => List ZFO) (Bool.rec (motive := fun _ => List ZFO) ([]) q_84_28 (Nat.beq t 28)) q_84_18 (Nat.beq t 18)
noncomputable def q_85_26 : List ZFO := oLA 0 :: oGr 10 2 :: oLI 3 :: oLI 2 :: oCal 45 2 3 :: oRI 4294967295 :: []
noncomputable def q_85_16 : List ZFO := oNo :: oDup :: oNo :: oNo :: oNo :: q_85_26
noncomputable def q_85_0 : List ZFO := oLA 0 :: oLI 1 :: oCal 86 1 10 :: oSI 3 :: oLI 2 :: oLt 16 :: oLI 2 :: oK 8 :: oIle 26 :: q_85_16
noncomputable def j_85 (t : Nat) : List ZFO := Bool.rec (motive := fun _ => List ZFO) (Bool.rec (motive := fun _ => List ZFO) ([]) q_85_26 (Nat.beq t 26)) q_85_16 (Nat.beq t 16)
noncomputable def q_86_23 : List ZFO := oLI 2 :: oRI 4294967295 :: []
noncomputable def q_86_0 : List ZFO := oLA 0 :: oGr 10 2 :: oLI 1 :: oCal 37 1 3 :: oSI 2 :: oLI 2 :: oGe 23 :: oNo :: oDup :: oNo :: oNo :: oNo :: q_86_23
noncomputable def j_86 (t : Nat) : List ZFO := Bool.rec (motive := fun _ => List ZFO) ([]) q_86_23 (Nat.beq t 23)
noncomputable def q_87_28 : List ZFO := oLI 3 :: oRI 4294967295 :: []
noncomputable def q_87_0 : List ZFO := oLA 0 :: oLI 1 :: oCal 86 1 10 :: oSI 3 :: oLA 0 :: oGr 10 2 :: oLI 3 :: oLI 2 :: oCal 42 2 3 :: oNe 28 :: oNo :: oDup :: oNo :: oNo :: oNo :: q_87_28
noncomputable def j_87 (t : Nat) : List ZFO := Bool.rec (motive := fun _ => List ZFO) ([]) q_87_28 (Nat.beq t 28)
noncomputable def q_88_25 : List ZFO := oLA 0 :: oGr 10 2 :: oGr 3 1 :: oLI 1 :: oIal :: oRI 4294967295 :: []
noncomputable def q_88_15 : List ZFO := oNo :: oDup :: oNo :: oNo :: oNo :: q_88_25
noncomputable def q_88_0 : List ZFO := oLI 1 :: oLt 15 :: oLI 1 :: oLA 0 :: oGr 10 2 :: oGf 3 11 :: oIlt 25 :: q_88_15
noncomputable def j_88 (t : Nat) : List ZFO := Bool.rec (motive := fun _ => List ZFO) (Bool.rec (motive := fun _ => List ZFO) ([]) q_88_25 (Nat.beq t 25)) q_88_15 (Nat.beq t 15)
noncomputable def q_89_32 : List ZFO := oRI 4294967295 :: []
noncomputable def q_89_23 : List ZFO := oLA 0 :: oGr 10 2 :: oGr 3 1 :: oLI 3 :: oIal :: q_89_32
noncomputable def q_89_0 : List ZFO := oLA 0 :: oGr 10 2 :: oLA 0 :: oLI 1 :: oLI 2 :: oCal 87 2 10 :: oLI 2 :: oCal 38 2 3 :: oSI 3 :: oLI 3 :: oGe 23 :: oK 4294967295 :: oGo 32 :: q_89_23
noncomputable def j_89 (t : Nat) : List ZFO := Bool.rec (motive := fun _ => List ZFO) (Bool.rec (motive := fun _ => List ZFO) ([]) q_89_32 (Nat.beq t 32)) q_89_23 (Nat.beq t 23)
noncomputable def q_90_25 : List ZFO := oRV :: []
noncomputable def q_90_15 : List ZFO := oNo :: oDup :: oNo :: oNo :: oNo :: q_90_25
noncomputable def q_90_0 : List ZFO := oLI 1 :: oLt 15 :: oLI 1 :: oLA 0 :: oGr 10 2 :: oGf 3 12 :: oIlt 25 :: q_90_15
noncomputable def j_90 (t : Nat) : List ZFO := Bool.rec (motive := fun _ => List ZFO) (Bool.rec (motive := fun _ => List ZFO) ([]) q_90_25 (Nat.beq t 25)) q_90_15 (Nat.beq t 15)
noncomputable def q_91_0 : List ZFO := oLA 0 :: oGr 10 5 :: oLA 0 :: oLI 1 :: oCal 86 1 10 :: oCal 15 1 1 :: oLA 0 :: oGr 10 5 :: oGf 1 7 :: oRI 4294967295 :: []
noncomputable def j_91 (t : Nat) : List ZFO := []
noncomputable def q_92_35 : List ZFO := oRI 4294967295 :: []
noncomputable def q_92_34 : List ZFO := oK 0 :: q_92_35
noncomputable def q_92_0 : List ZFO := oLA 0 :: oLI 1 :: oLI 2 :: oCal 87 2 10 :: oSI 3 :: oLA 0 :: oGr 10 2 :: oLI 3 :: oLI 2 :: oCal 38 2 3 :: oGe 34 :: oK 1 :: oLA 0 :: oGr 10 3 :: oLI 3 :: oLI 2 :: oK 4294967295 :: oCal 3 3 0 :: oAdd :: oGo 35 :: q_92_34
noncomputable def j_92 (t : Nat) : List ZFO := Bool.rec (motive := fun _ => List ZFO) (Bool.rec (motive := fun _ => List ZFO) ([]) q_92_35 (Nat.beq t 35)) q_92_34 (Nat.beq t 34)
noncomputable def q_93_0 : List ZFO := oLA 0 :: oLI 1 :: oLI 2 :: oCal 87 2 10 :: oSI 4 :: oLA 0 :: oLI 3 :: oCal 84 1 10 :: oLA 0 :: oGr 10 10 :: oLA 0 :: oGr 10 2 :: oCal 48 1 4 :: oLA 0 :: oGr 10 3 :: oLI 4 :: oLI 2 :: oLI 3 :: oCal 1 3 0 :: oRI 4294967295 :: []
noncomputable def j_93 (t : Nat) : List ZFO := []
noncomputable def q_94_0 : List ZFO := oLA 0 :: oLI 1 :: oCal 86 1 10 :: oSI 2 :: oLA 0 :: oGr 10 10 :: oLA 0 :: oGr 10 2 :: oCal 48 1 4 :: oLA 0 :: oGr 10 3 :: oLI 2 :: oCal 8 1 0 :: oRI 4294967295 :: []
noncomputable def j_94 (t : Nat) : List ZFO := []
noncomputable def q_95_0 : List ZFO := oLA 0 :: oLI 1 :: oCal 90 1 10 :: oLA 0 :: oGr 10 10 :: oLA 0 :: oGr 10 2 :: oCal 48 1 4 :: oLA 0 :: oGr 10 3 :: oLI 1 :: oLI 2 :: oCal 12 2 0 :: oRI 4294967295 :: []
noncomputable def j_95 (t : Nat) : List ZFO := []
noncomputable def q_96_13 : List ZFO := oRI 4294967295 :: []
noncomputable def q_96_12 : List ZFO := oK 0 :: q_96_13
noncomputable def q_96_0 : List ZFO := oLI 1 :: oLA 0 :: oAln :: oIge 12 :: oLA 0 :: oLI 1 :: oIal :: oGo 13 :: q_96_12
noncomputable def j_96 (t : Nat) : List ZFO := Bool.rec (motive := fun _ => List ZFO) (Bool.rec (motive := fun _ => List ZFO) ([]) q_96_13 (Nat.beq t 13)) q_96_12 (Nat.beq t 12)
noncomputable def q_97_0 : List ZFO := oLI 0 :: oK 2147483647 :: oAnd :: oLI 1 :: oRem :: oRI 4294967295 :: []
noncomputable def j_97 (t : Nat) : List ZFO := []
noncomputable def q_98_101 : List ZFO := oLA 0 :: oLA 1 :: oLen 112 :: oCal 81 1 10 :: oRI 4294967295 :: []
noncomputable def q_98_95 : List ZFO := oInc 2 20 :: oGo 2 :: q_98_101
noncomputable def q_98_70 : List ZFO := oLA 0 :: oLA 3 :: oK 0 :: oIal :: oLA 3 :: oK 1 :: oIal :: oLA 3 :: oK 2 :: oIal :: oLA 3 :: oK 3 :: oIal :: oLA 3 :: oK 4 :: oIal :: oCal 80 5 10 :: oGe 95 :: oK 4294967197 :: oRI 4294967295 :: q_98_95
noncomputable def q_98_62 : List ZFO := oOr :: oIas :: oInc 4 1 :: oGo 17 :: q_98_70
noncomputable def q_98_60 : List ZFO := oK 32 :: q_98_62
noncomputable def q_98_17 : List ZFO := oLI 4 :: oK 20 :: oIge 70 :: oLA 3 :: oLI 4 :: oK 4 :: oDiv :: oLA 3 :: oLI 4 :: oK 4 :: oDiv :: oIal :: oK 8 :: oShl :: oLI 2 :: oLI 4 :: oAdd :: oLA 1 :: oLen 112 :: oIge 60 :: oLA 1 :: oLI 2 :: oLI 4 :: oAdd :: oChr 113 :: oGo 62 :: q_98_60
noncomputable def q_98_2 : List ZFO := oLI 2 :: oLA 1 :: oLen 112 :: oIge 101 :: oK 5 :: oNa 50 :: oSA 3 :: oK 0 :: oSI 4 :: q_98_17
noncomputable def q_98_0 : List ZFO := oK 0 :: oSI 2 :: q_98_2
noncomputable def j_98 (t : Nat) : List ZFO := Bool.rec (motive := fun _ => List ZFO) (Bool.rec (motive := fun _ => List ZFO) (Bool.rec (motive := fun _ => List ZFO) (Bool.rec (motive := fun _ => List ZFO) (Bool.rec (motive := fun _ => List ZFO) (Bool.rec (motive := fun _ => List ZFO) (Bool.rec (motive := fun _ => List ZFO) ([]) q_98_101 (Nat.beq t 101)) q_98_95 (Nat.beq t 95)) q_98_70 (Nat.beq t 70)) q_98_62 (Nat.beq t 62)) q_98_60 (Nat.beq t 60)) q_98_17 (Nat.beq t 17)) q_98_2 (Nat.beq t 2)
noncomputable def q_99_41 : List ZFO := oLI 2 :: oRI 4294967295 :: []
noncomputable def q_99_33 : List ZFO := oAdd :: oSI 2 :: oInc 3 1 :: oGo 4 :: q_99_41
noncomputable def q_99_32 : List ZFO := oK 0 :: q_99_33
noncomputable def q_99_4 : List ZFO := oLI 3 :: oLA 0 :: oK 2 :: oCal 83 1 10 :: oIge 41 :: oLI 2 :: oLA 0 :: oLA 0 :: oLI 3 :: oCal 88 1 10 :: oK 1 :: oCal 85 2 10 :: oLI 1 :: oIne 32 :: oK 1 :: oGo 33 :: q_99_32
noncomputable def q_99_0 : List ZFO := oK 0 :: oSI 2 :: oK 0 :: oSI 3 :: q_99_4
noncomputable def j_99 (t : Nat) : List ZFO := Bool.rec (motive := fun _ => List ZFO) (Bool.rec (motive := fun _ => List ZFO) (Bool.rec (motive := fun _ => List ZFO) (Bool.rec (motive := fun _ => List ZFO) ([]) q_99_41 (Nat.beq t 41)) q_99_33 (Nat.beq t 33)) q_99_32 (Nat.beq t 32)) q_99_4 (Nat.beq t 4)
noncomputable def q_100_186 : List ZFO := oK 1 :: oRI 1 :: []
noncomputable def q_100_180 : List ZFO := oInc 3 1 :: oGo 2 :: q_100_186
noncomputable def q_100_178 : List ZFO := oK 0 :: oRI 1 :: q_100_180
noncomputable def q_100_175 : List ZFO := oIeq 180 :: q_100_178
noncomputable def q_100_174 : List ZFO := oLI 2 :: q_100_175
noncomputable def q_100_154 : List ZFO := oIne 178 :: oLA 0 :: oLI 5 :: oK 6 :: oCal 85 2 10 :: oLI 6 :: oEq 174 :: oK 0 :: oGo 175 :: q_100_174
noncomputable def q_100_153 : List ZFO := oK 0 :: q_100_154
noncomputable def q_100_135 : List ZFO := oSI 6 :: oLA 0 :: oLI 5 :: oK 5 :: oCal 85 2 10 :: oLI 6 :: oEq 153 :: oLI 2 :: oGo 154 :: q_100_153
noncomputable def q_100_134 : List ZFO := oK 0 :: q_100_135
noncomputable def q_100_120 : List ZFO := oLA 0 :: oLI 4 :: oK 5 :: oCal 85 2 10 :: oLe 134 :: oK 1 :: oGo 135 :: q_100_134
noncomputable def q_100_118 : List ZFO := oK 0 :: oRI 1 :: q_100_120
noncomputable def q_100_32 : List ZFO := oLA 0 :: oLI 4 :: oLI 1 :: oCal 89 2 10 :: oSI 5 :: oLI 5 :: oLt 118 :: oLA 0 :: oLI 5 :: oK 1 :: oCal 85 2 10 :: oK 2 :: oIne 118 :: oLA 0 :: oLI 5 :: oK 2 :: oCal 85 2 10 :: oNe 118 :: oLA 0 :: oLI 5 :: oK 3 :: oCal 85 2 10 :: oLI 4 :: oIne 118 :: oLA 0 :: oLI 5 :: oK 0 :: oCal 85 2 10 :: oLA 0 :: oLI 4 :: oK 0 :: oCal 85 2 10 :: oIne 118 :: oLA 0 :: oLI 5 :: oK 7 :: oCal 85 2 10 :: oNe 118 :: oLA 0 :: oLI 5 :: oK 8 :: oCal 85 2 10 :: oEq 120 :: q_100_118
noncomputable def q_100_2 : List ZFO := oLI 3 :: oLA 0 :: oK 2 :: oCal 83 1 10 :: oIge 186 :: oLA 0 :: oLI 3 :: oCal 88 1 10 :: oSI 4 :: oLA 0 :: oLI 4 :: oK 1 :: oCal 85 2 10 :: oK 1 :: oIeq 32 :: oGo 180 :: q_100_32
noncomputable def q_100_0 : List ZFO := oK 0 :: oSI 3 :: q_100_2
noncomputable def j_100 (t : Nat) : List ZFO := Bool.rec (motive := fun _ => List ZFO) (Bool.rec (motive := fun _ => List ZFO) (Bool.rec (motive := fun _ => List ZFO) (Bool.rec (motive := fun _ => List ZFO) (Bool.rec (motive := fun _ => List ZFO) (Bool.rec (motive := fun _ => List ZFO) (Bool.rec (motive := fun _ => List ZFO) (Bool.rec (motive := fun _ => List ZFO) (Bool.rec (motive := fun _ => List ZFO) (Bool.rec (motive := fun _ => List ZFO) (Bool.rec (motive := fun _ => List ZFO) (Bool.rec (motive := fun _ => List ZFO) (Bool.rec (motive := fun _ => List ZFO) ([]) q_100_186 (Nat.beq t 186)) q_100_180 (Nat.beq t 180)) q_100_178 (Nat.beq t 178)) q_100_175 (Nat.beq t 175)) q_100_174 (Nat.beq t 174)) q_100_154 (Nat.beq t 154)) q_100_153 (Nat.beq t 153)) q_100_135 (Nat.beq t 135)) q_100_134 (Nat.beq t 134)) q_100_120 (Nat.beq t 120)) q_100_118 (Nat.beq t 118)) q_100_32 (Nat.beq t 32)) q_100_2 (Nat.beq t 2)
noncomputable def q_101_53 : List ZFO := oPr 11 0 :: oLA 0 :: oLA 1 :: oCal 121 1 11 :: oPop :: oRV :: []
noncomputable def q_101_49 : List ZFO := oLI 3 :: oNo :: q_101_53
noncomputable def q_101_24 : List ZFO := oSI 3 :: oLA 1 :: oCod 115 :: oSI 4 :: oLA 0 :: oLI 4 :: oPz 11 1 :: oLA 0 :: oLI 4 :: oNe 49 :: oLI 3 :: oNa 51 :: oGo 53 :: q_101_49
noncomputable def q_101_22 : List ZFO := oK 2147483647 :: q_101_24
noncomputable def q_101_0 : List ZFO := oLA 0 :: oObj :: oLA 1 :: oLen 112 :: oSI 2 :: oLI 2 :: oK 2147483631 :: oIge 22 :: oLI 2 :: oK 16 :: oAdd :: oGo 24 :: q_101_22
noncomputable def j_101 (t : Nat) : List ZFO := Bool.rec (motive := fun _ => List ZFO) (Bool.rec (motive := fun _ => List ZFO) (Bool.rec (motive := fun _ => List ZFO) (Bool.rec (motive := fun _ => List ZFO) ([]) q_101_53 (Nat.beq t 53)) q_101_49 (Nat.beq t 49)) q_101_24 (Nat.beq t 24)) q_101_22 (Nat.beq t 22)
noncomputable def q_102_0 : List ZFO := oLA 0 :: oGf 11 3 :: oRI 4294967295 :: []
noncomputable def j_102 (t : Nat) : List ZFO := []
noncomputable def q_103_38 : List ZFO := oRV :: []
noncomputable def q_103_0 : List ZFO := oLA 0 :: oGr 11 0 :: oAln :: oLA 0 :: oGf 11 1 :: oShr :: oSI 2 :: oLI 1 :: oLI 2 :: oSub :: oLe 38 :: oLA 0 :: oLA 0 :: oGr 11 0 :: oLA 0 :: oLI 1 :: oCal 104 1 11 :: oLA 0 :: oGf 11 1 :: oShl :: oCst 125 2 :: oPr 11 0 :: q_103_38
noncomputable def j_103 (t : Nat) : List ZFO := Bool.rec (motive := fun _ => List ZFO) ([]) q_103_38 (Nat.beq t 38)
noncomputable def q_104_51 : List ZFO := oLI 5 :: oLA 0 :: oGf 11 1 :: oShr :: oRI 4294967295 :: []
noncomputable def q_104_0 : List ZFO := oLA 0 :: oGr 11 0 :: oAln :: oSI 2 :: oLI 1 :: oLA 0 :: oGf 11 1 :: oShl :: oSI 3 :: oLI 3 :: oLI 2 :: oSub :: oSI 4 :: oLI 2 :: oLI 4 :: oLI 2 :: oK 2 :: oLA 0 :: oGf 11 1 :: oShl :: oAdd :: oCst 129 3 :: oSI 5 :: oLI 5 :: oK 2147483647 :: oIne 51 :: oNo :: oDup :: oNo :: oNo :: oNo :: q_104_51
noncomputable def j_104 (t : Nat) : List ZFO := Bool.rec (motive := fun _ => List ZFO) ([]) q_104_51 (Nat.beq t 51)
noncomputable def q_105_9 : List ZFO := oLA 1 :: oLen 112 :: oSI 2 :: oLA 0 :: oLA 0 :: oGf 11 3 :: oLI 2 :: oAdd :: oCal 103 1 11 :: oLA 0 :: oLA 0 :: oGf 11 3 :: oLA 1 :: oCal 110 2 11 :: oLA 0 :: oDup :: oGf 11 3 :: oLI 2 :: oAdd :: oPf 11 3 :: oLA 0 :: oRA :: []
noncomputable def q_105_0 : List ZFO := oLA 1 :: oNn 9 :: oLA 0 :: oNo :: oRA :: q_105_9
noncomputable def j_105 (t : Nat) : List ZFO := Bool.rec (motive := fun _ => List ZFO) ([]) q_105_9 (Nat.beq t 9)
noncomputable def q_106_75 : List ZFO := oLA 0 :: oRA :: []
noncomputable def q_106_56 : List ZFO := oLA 0 :: oGr 11 0 :: oLA 0 :: oDup :: oGf 11 3 :: oDx :: oK 1 :: oAdd :: oPf 11 3 :: oLI 1 :: oNo :: q_106_75
noncomputable def q_106_45 : List ZFO := oLA 0 :: oCal 108 0 11 :: oEq 56 :: oLA 0 :: oNo :: q_106_56
noncomputable def q_106_0 : List ZFO := oLA 0 :: oLA 0 :: oGf 11 3 :: oK 1 :: oAdd :: oCal 103 1 11 :: oLA 0 :: oCal 108 0 11 :: oEq 45 :: oLI 1 :: oCst 124 1 :: oEq 45 :: oLA 0 :: oGr 11 0 :: oLA 0 :: oDup :: oGf 11 3 :: oDx :: oK 1 :: oAdd :: oPf 11 3 :: oLI 1 :: oI2b :: oBas :: oGo 75 :: q_106_45
noncomputable def j_106 (t : Nat) : List ZFO := Bool.rec (motive := fun _ => List ZFO) (Bool.rec (motive := fun _ => List ZFO) (Bool.rec (motive := fun _ => List ZFO) ([]) q_106_75 (Nat.beq t 75)) q_106_56 (Nat.beq t 56)) q_106_45 (Nat.beq t 45)
noncomputable def q_107_0 : List ZFO := oLA 0 :: oGr 11 0 :: oRA :: []
noncomputable def j_107 (t : Nat) : List ZFO := []
noncomputable def q_108_18 : List ZFO := oRI 1 :: []
noncomputable def q_108_17 : List ZFO := oK 0 :: q_108_18
noncomputable def q_108_0 : List ZFO := oK 1 :: oEq 17 :: oLA 0 :: oGf 11 1 :: oNe 17 :: oK 1 :: oGo 18 :: q_108_17
noncomputable def j_108 (t : Nat) : List ZFO := Bool.rec (motive := fun _ => List ZFO) (Bool.rec (motive := fun _ => List ZFO) ([]) q_108_18 (Nat.beq t 18)) q_108_17 (Nat.beq t 17)
noncomputable def q_109_21 : List ZFO := oRV :: []
noncomputable def q_109_0 : List ZFO := oK 1 :: oEq 21 :: oLA 0 :: oGf 11 1 :: oLA 1 :: oCod 115 :: oIeq 21 :: oLA 0 :: oNo :: q_109_21
noncomputable def j_109 (t : Nat) : List ZFO := Bool.rec (motive := fun _ => List ZFO) ([]) q_109_21 (Nat.beq t 21)
noncomputable def q_110_0 : List ZFO := oLA 0 :: oLA 2 :: oCal 109 1 11 :: oLA 2 :: oLA 0 :: oGr 11 0 :: oLI 1 :: oLA 0 :: oGf 11 1 :: oGb :: oRV :: []
noncomputable def j_110 (t : Nat) : List ZFO := []
noncomputable def q_111_0 : List ZFO := oLA 0 :: oLA 1 :: oK 4294967296 :: oCal 114 2 12 :: oRV :: []
noncomputable def j_111 (t : Nat) : List ZFO := []
noncomputable def q_112_0 : List ZFO := oLA 0 :: oGr 12 0 :: oAln :: oLA 0 :: oCod 115 :: oShr :: oRI 4294967295 :: []
noncomputable def j_112 (t : Nat) : List ZFO := []
noncomputable def q_113_16 : List ZFO := oLA 0 :: oGr 12 0 :: oLI 1 :: oNo :: oRI 127 :: []
noncomputable def q_113_0 : List ZFO := oLA 0 :: oCal 116 0 12 :: oEq 16 :: oLA 0 :: oGr 12 0 :: oLI 1 :: oCst 123 2 :: oRI 127 :: q_113_16
noncomputable def j_113 (t : Nat) : List ZFO := Bool.rec (motive := fun _ => List ZFO) ([]) q_113_16 (Nat.beq t 16)
noncomputable def q_114_97 : List ZFO := oRV :: []
noncomputable def q_114_79 : List ZFO := oLA 0 :: oK 1 :: oPz 12 1 :: oLA 0 :: oLA 3 :: oK 0 :: oLI 4 :: oK 1 :: oShl :: oCst 127 3 :: oPr 12 0 :: q_114_97
noncomputable def q_114_41 : List ZFO := oK 1 :: oEq 79 :: oLA 1 :: oGf 11 2 :: oEq 79 :: oLA 0 :: oLA 3 :: oK 0 :: oLI 4 :: oNo :: oPr 12 0 :: oLA 0 :: oLA 0 :: oGr 12 0 :: oLI 4 :: oNo :: oPz 12 1 :: oRV :: q_114_79
noncomputable def q_114_0 : List ZFO := oLA 0 :: oObj :: oLA 1 :: oCal 107 0 11 :: oSA 3 :: oLA 1 :: oCal 122 0 11 :: oSI 4 :: oLA 1 :: oCal 108 0 11 :: oEq 41 :: oLA 0 :: oK 0 :: oPz 12 1 :: oLA 0 :: oLA 3 :: oK 0 :: oLI 4 :: oCst 127 3 :: oPr 12 0 :: oGo 97 :: q_114_41
noncomputable def j_114 (t : Nat) : List ZFO := Bool.rec (motive := fun _ => List ZFO) (Bool.rec (motive := fun _ => List ZFO) (Bool.rec (motive := fun _ => List ZFO) ([]) q_114_97 (Nat.beq t 97)) q_114_79 (Nat.beq t 79)) q_114_41 (Nat.beq t 41)
noncomputable def q_115_14 : List ZFO := oRI 127 :: []
noncomputable def q_115_13 : List ZFO := oK 1 :: q_115_14
noncomputable def q_115_0 : List ZFO := oK 1 :: oEq 13 :: oLA 0 :: oGf 12 1 :: oGo 14 :: q_115_13
noncomputable def j_115 (t : Nat) : List ZFO := Bool.rec (motive := fun _ => List ZFO) (Bool.rec (motive := fun _ => List ZFO) ([]) q_115_14 (Nat.beq t 14)) q_115_13 (Nat.beq t 13)
noncomputable def q_116_18 : List ZFO := oRI 1 :: []
noncomputable def q_116_17 : List ZFO := oK 0 :: q_116_18
noncomputable def q_116_0 : List ZFO := oK 1 :: oEq 17 :: oLA 0 :: oGf 12 1 :: oNe 17 :: oK 1 :: oGo 18 :: q_116_17
noncomputable def j_116 (t : Nat) : List ZFO := Bool.rec (motive := fun _ => List ZFO) (Bool.rec (motive := fun _ => List ZFO) ([]) q_116_18 (Nat.beq t 18)) q_116_17 (Nat.beq t 17)
noncomputable def q_117_0 : List ZFO := oLA 0 :: oLA 1 :: oCal 101 1 11 :: oRV :: []
noncomputable def j_117 (t : Nat) : List ZFO := []
noncomputable def q_118_0 : List ZFO := oLA 0 :: oLA 1 :: oCal 105 1 11 :: oPop :: oLA 0 :: oRA :: []
noncomputable def j_118 (t : Nat) : List ZFO := []
noncomputable def q_119_0 : List ZFO := oLA 0 :: oLI 1 :: oCal 106 1 11 :: oPop :: oLA 0 :: oRA :: []
noncomputable def j_119 (t : Nat) : List ZFO := []
noncomputable def q_120_0 : List ZFO := oNew 12 4 :: oDup :: oLA 0 :: oCal 111 1 12 :: oRA :: []
noncomputable def j_120 (t : Nat) : List ZFO := []
noncomputable def q_121_0 : List ZFO := oLA 0 :: oLA 1 :: oCal 118 1 11 :: oRA :: []
noncomputable def j_121 (t : Nat) : List ZFO := []
noncomputable def q_122_0 : List ZFO := oLA 0 :: oCal 102 0 11 :: oRI 4294967295 :: []
noncomputable def j_122 (t : Nat) : List ZFO := []
noncomputable def q_123_0 : List ZFO := oLI 1 :: oLA 0 :: oAln :: oChk :: oLA 0 :: oLI 1 :: oBal :: oK 255 :: oAnd :: oI2c :: oRI 127 :: []
noncomputable def j_123 (t : Nat) : List ZFO := []
noncomputable def q_124_12 : List ZFO := oRI 1 :: []
noncomputable def q_124_11 : List ZFO := oK 0 :: q_124_12
noncomputable def q_124_0 : List ZFO := oLI 0 :: oK 255 :: oIgt 11 :: oK 1 :: oGo 12 :: q_124_11
noncomputable def j_124 (t : Nat) : List ZFO := Bool.rec (motive := fun _ => List ZFO) (Bool.rec (motive := fun _ => List ZFO) ([]) q_124_12 (Nat.beq t 12)) q_124_11 (Nat.beq t 11)
noncomputable def q_125_14 : List ZFO := oLI 1 :: oNa 51 :: oSA 2 :: oLA 0 :: oK 0 :: oLA 2 :: oK 0 :: oLA 0 :: oAln :: oLI 1 :: oMin :: oCpy :: oLA 2 :: oRA :: []
noncomputable def q_125_0 : List ZFO := oLI 1 :: oLA 0 :: oAln :: oIne 14 :: oLA 0 :: oNo :: oNo :: oRA :: q_125_14
noncomputable def j_125 (t : Nat) : List ZFO := Bool.rec (motive := fun _ => List ZFO) ([]) q_125_14 (Nat.beq t 14)
noncomputable def q_126_37 : List ZFO := oRV :: []
noncomputable def q_126_0 : List ZFO := oLI 1 :: oLI 0 :: oIge 37 :: oNo :: oDup :: oNo :: oDup :: oNo :: oLI 0 :: oNo :: oNo :: oNo :: oLI 1 :: oNo :: oNo :: oNo :: oNo :: q_126_37
noncomputable def j_126 (t : Nat) : List ZFO := Bool.rec (motive := fun _ => List ZFO) ([]) q_126_37 (Nat.beq t 37)
noncomputable def q_127_17 : List ZFO := oLA 0 :: oNo :: oNo :: oRA :: []
noncomputable def q_127_10 : List ZFO := oLA 0 :: oLI 1 :: oLI 2 :: oCst 128 3 :: oRA :: q_127_17
noncomputable def q_127_0 : List ZFO := oLI 1 :: oNe 10 :: oLI 2 :: oLA 0 :: oAln :: oIeq 17 :: q_127_10
noncomputable def j_127 (t : Nat) : List ZFO := Bool.rec (motive := fun _ => List ZFO) (Bool.rec (motive := fun _ => List ZFO) ([]) q_127_17 (Nat.beq t 17)) q_127_10 (Nat.beq t 10)
noncomputable def q_128_0 : List ZFO := oLI 1 :: oLI 2 :: oCst 126 2 :: oLI 2 :: oLI 1 :: oSub :: oSI 3 :: oLI 3 :: oNa 51 :: oSA 4 :: oLA 0 :: oLI 1 :: oLA 4 :: oK 0 :: oLA 0 :: oAln :: oLI 1 :: oSub :: oLI 3 :: oMin :: oCpy :: oLA 4 :: oRA :: []
noncomputable def j_128 (t : Nat) : List ZFO := []
noncomputable def q_129_21 : List ZFO := oLI 0 :: oLI 1 :: oNo :: oRI 4294967295 :: []
noncomputable def q_129_0 : List ZFO := oLI 0 :: oLI 1 :: oLI 2 :: oMax :: oAdd :: oSI 3 :: oK 0 :: oLI 3 :: oIge 21 :: oLI 3 :: oK 2147483639 :: oIgt 21 :: oLI 3 :: oRI 4294967295 :: q_129_21
noncomputable def j_129 (t : Nat) : List ZFO := Bool.rec (motive := fun _ => List ZFO) ([]) q_129_21 (Nat.beq t 21)
noncomputable def q_130_692 : List ZFO := oRI 1 :: []
noncomputable def q_130_691 : List ZFO := oK 0 :: q_130_692
noncomputable def q_130_652 : List ZFO := oLA 8 :: oLI 12 :: oCal 94 1 10 :: oLI 10 :: oLI 13 :: oSub :: oIne 691 :: oLA 8 :: oK 2 :: oCst 99 2 :: oNe 691 :: oLA 8 :: oK 1 :: oCst 99 2 :: oLI 10 :: oIne 691 :: oK 1 :: oGo 692 :: q_130_691
noncomputable def q_130_647 : List ZFO := oIeq 652 :: oK 0 :: oRI 1 :: q_130_652
noncomputable def q_130_646 : List ZFO := oK 0 :: q_130_647
noncomputable def q_130_635 : List ZFO := oLI 10 :: oLI 9 :: oIle 646 :: oK 1 :: oGo 647 :: q_130_646
noncomputable def q_130_634 : List ZFO := oK 0 :: q_130_635
noncomputable def q_130_624 : List ZFO := oLI 13 :: oK 1 :: oIne 634 :: oK 1 :: oGo 635 :: q_130_634
noncomputable def q_130_618 : List ZFO := oInc 14 4294967295 :: oGo 537 :: q_130_624
noncomputable def q_130_616 : List ZFO := oK 0 :: oRI 1 :: q_130_618
noncomputable def q_130_588 : List ZFO := oLA 8 :: oLI 15 :: oCal 94 1 10 :: oSI 13 :: oLI 13 :: oK 1 :: oIne 616 :: oLA 8 :: oK 2 :: oCst 99 2 :: oLI 10 :: oK 1 :: oSub :: oIeq 618 :: q_130_616
noncomputable def q_130_537 : List ZFO := oLI 14 :: oLt 624 :: oLI 13 :: oNe 624 :: oLA 8 :: oLI 14 :: oCal 88 1 10 :: oSI 15 :: oLA 8 :: oLI 15 :: oK 1 :: oCal 85 2 10 :: oK 2 :: oIne 618 :: oLA 8 :: oLA 8 :: oLI 15 :: oK 3 :: oCal 85 2 10 :: oK 5 :: oCal 85 2 10 :: oLe 588 :: oGo 618 :: q_130_588
noncomputable def q_130_524 : List ZFO := oK 0 :: oSI 13 :: oLA 8 :: oK 2 :: oCal 83 1 10 :: oK 1 :: oSub :: oSI 14 :: q_130_537
noncomputable def q_130_522 : List ZFO := oK 0 :: oRI 1 :: q_130_524
noncomputable def q_130_446 : List ZFO := oLA 8 :: oK 1 :: oLI 5 :: oCal 89 2 10 :: oSI 12 :: oLI 12 :: oLI 11 :: oIne 522 :: oLA 8 :: oLI 12 :: oK 5 :: oCal 85 2 10 :: oK 2 :: oIne 522 :: oLA 8 :: oK 8 :: oCal 83 1 10 :: oK 2 :: oIne 522 :: oLA 8 :: oLI 5 :: oK 2 :: oCst 100 3 :: oEq 522 :: oLA 8 :: oLI 12 :: oCal 91 1 10 :: oLI 10 :: oIne 522 :: oLA 8 :: oK 1 :: oLI 5 :: oK 2 :: oCal 93 3 10 :: oK 4294967295 :: oIeq 524 :: q_130_522
noncomputable def q_130_444 : List ZFO := oK 0 :: oRI 1 :: q_130_446
noncomputable def q_130_391 : List ZFO := oLA 8 :: oK 1 :: oLI 5 :: oCal 92 2 10 :: oLI 10 :: oIne 444 :: oLA 8 :: oK 1 :: oLI 5 :: oK 2 :: oCal 93 3 10 :: oLI 10 :: oIne 444 :: oLA 8 :: oK 2 :: oCst 99 2 :: oLI 10 :: oIne 444 :: oLA 8 :: oK 7 :: oCal 83 1 10 :: oLI 11 :: oLI 10 :: oAdd :: oIeq 446 :: q_130_444
noncomputable def q_130_390 : List ZFO := oRI 1 :: q_130_391
noncomputable def q_130_389 : List ZFO := oK 0 :: q_130_390
noncomputable def q_130_321 : List ZFO := oLA 8 :: oK 7 :: oCal 83 1 10 :: oSI 11 :: oLI 10 :: oLA 8 :: oK 2 :: oCal 83 1 10 :: oAdd :: oK 40 :: oIle 391 :: oLA 8 :: oK 1 :: oLI 5 :: oCal 92 2 10 :: oLI 10 :: oIne 389 :: oLA 8 :: oK 1 :: oLI 5 :: oK 2 :: oCal 93 3 10 :: oK 4294967288 :: oIne 389 :: oLA 8 :: oK 2 :: oCal 83 1 10 :: oLI 10 :: oLI 4 :: oAdd :: oIne 389 :: oK 1 :: oGo 390 :: q_130_389
noncomputable def q_130_319 : List ZFO := oK 0 :: oRI 1 :: q_130_321
noncomputable def q_130_316 : List ZFO := oIeq 321 :: q_130_319
noncomputable def q_130_315 : List ZFO := oK 0 :: q_130_316
noncomputable def q_130_230 : List ZFO := oMul :: oSI 9 :: oK 1 :: oLI 1 :: oAdd :: oLI 2 :: oAdd :: oLI 4 :: oMul :: oSI 10 :: oLA 8 :: oK 1 :: oCst 99 2 :: oLI 10 :: oIne 319 :: oLA 8 :: oK 1 :: oCal 91 1 10 :: oLI 10 :: oIne 319 :: oLA 8 :: oK 3 :: oCal 83 1 10 :: oLI 9 :: oIne 319 :: oLA 8 :: oK 2 :: oCal 83 1 10 :: oLI 10 :: oLI 4 :: oAdd :: oIne 319 :: oLA 8 :: oK 6 :: oCal 83 1 10 :: oLI 3 :: oK 2 :: oIne 315 :: oK 2 :: oLI 1 :: oAdd :: oLI 2 :: oAdd :: oLI 4 :: oK 1 :: oSub :: oMul :: oGo 316 :: q_130_315
noncomputable def q_130_229 : List ZFO := oK 1 :: q_130_230
noncomputable def q_130_216 : List ZFO := oK 1 :: oLI 1 :: oAdd :: oLI 3 :: oK 1 :: oIne 229 :: oLI 4 :: oGo 230 :: q_130_229
noncomputable def q_130_210 : List ZFO := oInc 9 1 :: oGo 180 :: q_130_216
noncomputable def q_130_200 : List ZFO := oCal 95 2 10 :: oLI 9 :: oIeq 210 :: oK 0 :: oRI 1 :: q_130_210
noncomputable def q_130_199 : List ZFO := oK 0 :: q_130_200
noncomputable def q_130_180 : List ZFO := oLI 9 :: oLI 4 :: oIge 216 :: oLA 8 :: oK 0 :: oLI 3 :: oK 2 :: oIne 199 :: oK 1 :: oGo 200 :: q_130_199
noncomputable def q_130_177 : List ZFO := oK 1 :: oSI 9 :: q_130_180
noncomputable def q_130_148 : List ZFO := oNew 10 11 :: oDup :: oCal 79 0 10 :: oSA 8 :: oLA 8 :: oLA 6 :: oCal 120 0 11 :: oCst 98 2 :: oK 2 :: oLI 1 :: oAdd :: oLI 2 :: oAdd :: oIeq 177 :: oK 0 :: oRI 1 :: q_130_177
noncomputable def q_130_142 : List ZFO := oInc 8 1 :: oGo 82 :: q_130_148
noncomputable def q_130_82 : List ZFO := oLI 8 :: oLI 1 :: oLI 2 :: oAdd :: oIge 148 :: oLA 6 :: oK 8589934604 :: oCal 118 1 11 :: oLA 7 :: oLI 8 :: oChr 113 :: oCal 119 1 11 :: oK 59 :: oCal 119 1 11 :: oPop :: oLI 8 :: oLI 1 :: oIlt 142 :: oLA 6 :: oK 8589934605 :: oCal 118 1 11 :: oLA 7 :: oLI 8 :: oChr 113 :: oCal 119 1 11 :: oK 59 :: oCal 119 1 11 :: oPop :: q_130_142
noncomputable def q_130_64 : List ZFO := oNew 11 4 :: oDup :: oK 8589934602 :: oCal 117 1 11 :: oSA 6 :: oK 8589934603 :: oSA 7 :: oK 0 :: oSI 8 :: q_130_82
noncomputable def q_130_50 : List ZFO := oAdd :: oSI 4 :: oLA 0 :: oK 3 :: oCst 96 2 :: oK 4 :: oCst 97 2 :: oSI 5 :: q_130_64
noncomputable def q_130_49 : List ZFO := oK 0 :: q_130_50
noncomputable def q_130_0 : List ZFO := oLA 0 :: oK 0 :: oCst 96 2 :: oK 3 :: oCst 97 2 :: oSI 1 :: oLA 0 :: oK 1 :: oCst 96 2 :: oK 3 :: oCst 97 2 :: oSI 2 :: oLA 0 :: oK 2 :: oCst 96 2 :: oK 3 :: oCst 97 2 :: oSI 3 :: oK 1 :: oLI 3 :: oLe 49 :: oK 1 :: oLA 0 :: oK 2 :: oCst 96 2 :: oK 3 :: oShr :: oK 1 :: oAnd :: oAdd :: oGo 50 :: q_130_49
noncomputable def j_130 (t : Nat) : List ZFO := Bool.rec (motive := fun _ => List ZFO) (Bool.rec (motive := fun _ => List ZFO) (Bool.rec (motive := fun _ => List ZFO) (Bool.rec (motive := fun _ => List ZFO) (Bool.rec (motive := fun _ => List ZFO) (Bool.rec (motive := fun _ => List ZFO) (Bool.rec (motive := fun _ => List ZFO) (Bool.rec (motive := fun _ => List ZFO) (Bool.rec (motive := fun _ => List ZFO) (Bool.rec (motive := fun _ => List ZFO) (Bool.rec (motive := fun _ => List ZFO) (Bool.rec (motive := fun _ => List ZFO) (Bool.rec (motive := fun _ => List ZFO) (Bool.rec (motive := fun _ => List ZFO) (Bool.rec (motive := fun _ => List ZFO) (Bool.rec (motive := fun _ => List ZFO) (Bool.rec (motive := fun _ => List ZFO) (Bool.rec (motive := fun _ => List ZFO) (Bool.rec (motive := fun _ => List ZFO) (Bool.rec (motive := fun _ => List ZFO) (Bool.rec (motive := fun _ => List ZFO) (Bool.rec (motive := fun _ => List ZFO) (Bool.rec (motive := fun _ => List ZFO) (Bool.rec (motive := fun _ => List ZFO) (Bool.rec (motive := fun _ => List ZFO) (Bool.rec (motive := fun _ => List ZFO) (Bool.rec (motive := fun _ => List ZFO) (Bool.rec (motive := fun _ => List ZFO) (Bool.rec (motive := fun _ => List ZFO) (Bool.rec (motive := fun _ => List ZFO) (Bool.rec (motive := fun _ => List ZFO) (Bool.rec (motive := fun _ => List ZFO) (Bool.rec (motive := fun _ => List ZFO) (Bool.rec (motive := fun _ => List ZFO) (Bool.rec (motive := fun _ => List ZFO) (Bool.rec (motive := fun _ => List ZFO) (Bool.rec (motive := fun _ => List ZFO) ([]) q_130_692 (Nat.beq t 692)) q_130_691 (Nat.beq t 691)) q_130_652 (Nat.beq t 652)) q_130_647 (Nat.beq t 647)) q_130_646 (Nat.beq t 646)) q_130_635 (Nat.beq t 635)) q_130_634 (Nat.beq t 634)) q_130_624 (Nat.beq t 624)) q_130_618 (Nat.beq t 618)) q_130_616 (Nat.beq t 616)) q_130_588 (Nat.beq t 588)) q_130_537 (Nat.beq t 537)) q_130_524 (Nat.beq t 524)) q_130_522 (Nat.beq t 522)) q_130_446 (Nat.beq t 446)) q_130_444 (Nat.beq t 444)) q_130_391 (Nat.beq t 391)) q_130_390 (Nat.beq t 390)) q_130_389 (Nat.beq t 389)) q_130_321 (Nat.beq t 321)) q_130_319 (Nat.beq t 319)) q_130_316 (Nat.beq t 316)) q_130_315 (Nat.beq t 315)) q_130_230 (Nat.beq t 230)) q_130_229 (Nat.beq t 229)) q_130_216 (Nat.beq t 216)) q_130_210 (Nat.beq t 210)) q_130_200 (Nat.beq t 200)) q_130_199 (Nat.beq t 199)) q_130_180 (Nat.beq t 180)) q_130_177 (Nat.beq t 177)) q_130_148 (Nat.beq t 148)) q_130_142 (Nat.beq t 142)) q_130_82 (Nat.beq t 82)) q_130_64 (Nat.beq t 64)) q_130_50 (Nat.beq t 50)) q_130_49 (Nat.beq t 49)
noncomputable def cdF (y : Nat) : List ZFO := Bool.rec (motive := fun _ => List ZFO) (Bool.rec (motive := fun _ => List ZFO) (Bool.rec (motive := fun _ => List ZFO) (Bool.rec (motive := fun _ => List ZFO) (Bool.rec (motive := fun _ => List ZFO) (Bool.rec (motive := fun _ => List ZFO) (Bool.rec (motive := fun _ => List ZFO) (q_0_0) (q_1_0) (Nat.ble 1 y)) (Bool.rec (motive := fun _ => List ZFO) (q_2_0) (q_3_0) (Nat.ble 3 y)) (Nat.ble 2 y)) (Bool.rec (motive := fun _ => List ZFO) (Bool.rec (motive := fun _ => List ZFO) (q_4_0) (q_5_0) (Nat.ble 5 y)) (Bool.rec (motive := fun _ => List ZFO) (q_6_0) (q_7_0) (Nat.ble 7 y)) (Nat.ble 6 y)) (Nat.ble 4 y)) (Bool.rec (motive := fun _ => List ZFO) (Bool.rec (motive := fun _ => List ZFO) (Bool.rec (motive := fun _ => List ZFO) (q_8_0) (q_9_0) (Nat.ble 9 y)) (Bool.rec (motive := fun _ => List ZFO) (q_10_0) (q_11_0) (Nat.ble 11 y)) (Nat.ble 10 y)) (Bool.rec (motive := fun _ => List ZFO) (Bool.rec (motive := fun _ => List ZFO) (q_12_0) (q_13_0) (Nat.ble 13 y)) (Bool.rec (motive := fun _ => List ZFO) (q_14_0) (q_15_0) (Nat.ble 15 y)) (Nat.ble 14 y)) (Nat.ble 12 y)) (Nat.ble 8 y)) (Bool.rec (motive := fun _ => List ZFO) (Bool.rec (motive := fun _ => List ZFO) (Bool.rec (motive := fun _ => List ZFO) (Bool.rec (motive := fun _ => List ZFO) (q_16_0) (q_17_0) (Nat.ble 17 y)) (Bool.rec (motive := fun _ => List ZFO) (q_18_0) (q_19_0) (Nat.ble 19 y)) (Nat.ble 18 y)) (Bool.rec (motive := fun _ => List ZFO) (Bool.rec (motive := fun _ => List ZFO) (q_20_0) (q_21_0) (Nat.ble 21 y)) (Bool.rec (motive := fun _ => List ZFO) (q_22_0) (q_23_0) (Nat.ble 23 y)) (Nat.ble 22 y)) (Nat.ble 20 y)) (Bool.rec (motive := fun _ => List ZFO) (Bool.rec (motive := fun _ => List ZFO) (Bool.rec (motive := fun _ => List ZFO) (q_24_0) (q_25_0) (Nat.ble 25 y)) (Bool.rec (motive := fun _ => List ZFO) (q_26_0) (q_27_0) (Nat.ble 27 y)) (Nat.ble 26 y)) (Bool.rec (motive := fun _ => List ZFO) (Bool.rec (motive := fun _ => List ZFO) (q_28_0) (q_29_0) (Nat.ble 29 y)) (Bool.rec (motive := fun _ => List ZFO) (q_30_0) (q_31_0) (Nat.ble 31 y)) (Nat.ble 30 y)) (Nat.ble 28 y)) (Nat.ble 24 y)) (Nat.ble 16 y)) (Bool.rec (motive := fun _ => List ZFO) (Bool.rec (motive := fun _ => List ZFO) (Bool.rec (motive := fun _ => List ZFO) (Bool.rec (motive := fun _ => List ZFO) (Bool.rec (motive := fun _ => List ZFO) (q_32_0) (q_33_0) (Nat.ble 33 y)) (Bool.rec (motive := fun _ => List ZFO) (q_34_0) (q_35_0) (Nat.ble 35 y)) (Nat.ble 34 y)) (Bool.rec (motive := fun _ => List ZFO) (Bool.rec (motive := fun _ => List ZFO) (q_36_0) (q_37_0) (Nat.ble 37 y)) (Bool.rec (motive := fun _ => List ZFO) (q_38_0) (q_39_0) (Nat.ble 39 y)) (Nat.ble 38 y)) (Nat.ble 36 y)) (Bool.rec (motive := fun _ => List ZFO) (Bool.rec (motive := fun _ => List ZFO) (Bool.rec (motive := fun _ => List ZFO) (q_40_0) (q_41_0) (Nat.ble 41 y)) (Bool.rec (motive := fun _ => List ZFO) (q_42_0) (q_43_0) (Nat.ble 43 y)) (Nat.ble 42 y)) (Bool.rec (motive := fun _ => List ZFO) (Bool.rec (motive := fun _ => List ZFO) (q_44_0) (q_45_0) (Nat.ble 45 y)) (Bool.rec (motive := fun _ => List ZFO) (q_46_0) (q_47_0) (Nat.ble 47 y)) (Nat.ble 46 y)) (Nat.ble 44 y)) (Nat.ble 40 y)) (Bool.rec (motive := fun _ => List ZFO) (Bool.rec (motive := fun _ => List ZFO) (Bool.rec (motive := fun _ => List ZFO) (Bool.rec (motive := fun _ => List ZFO) (q_48_0) (q_49_0) (Nat.ble 49 y)) (Bool.rec (motive := fun _ => List ZFO) (q_50_0) (q_51_0) (Nat.ble 51 y)) (Nat.ble 50 y)) (Bool.rec (motive := fun _ => List ZFO) (Bool.rec (motive := fun _ => List ZFO) (q_52_0) (q_53_0) (Nat.ble 53 y)) (Bool.rec (motive := fun _ => List ZFO) (q_54_0) (q_55_0) (Nat.ble 55 y)) (Nat.ble 54 y)) (Nat.ble 52 y)) (Bool.rec (motive := fun _ => List ZFO) (Bool.rec (motive := fun _ => List ZFO) (Bool.rec (motive := fun _ => List ZFO) (q_56_0) (q_57_0) (Nat.ble 57 y)) (Bool.rec (motive := fun _ => List ZFO) (q_58_0) (q_59_0) (Nat.ble 59 y)) (Nat.ble 58 y)) (Bool.rec (motive := fun _ => List ZFO) (Bool.rec (motive := fun _ => List ZFO) (q_60_0) (q_61_0) (Nat.ble 61 y)) (Bool.rec (motive := fun _ => List ZFO) (q_62_0) (Bool.rec (motive := fun _ => List ZFO) (q_63_0) (q_64_0) (Nat.ble 64 y)) (Nat.ble 63 y)) (Nat.ble 62 y)) (Nat.ble 60 y)) (Nat.ble 56 y)) (Nat.ble 48 y)) (Nat.ble 32 y)) (Bool.rec (motive := fun _ => List ZFO) (Bool.rec (motive := fun _ => List ZFO) (Bool.rec (motive := fun _ => List ZFO) (Bool.rec (motive := fun _ => List ZFO) (Bool.rec (motive := fun _ => List ZFO) (Bool.rec (motive := fun _ => List ZFO) (q_65_0) (q_66_0) (Nat.ble 66 y)) (Bool.rec (motive := fun _ => List ZFO) (q_67_0) (q_68_0) (Nat.ble 68 y)) (Nat.ble 67 y)) (Bool.rec (motive := fun _ => List ZFO) (Bool.rec (motive := fun _ => List ZFO) (q_69_0) (q_70_0) (Nat.ble 70 y)) (Bool.rec (motive := fun _ => List ZFO) (q_71_0) (q_72_0) (Nat.ble 72 y)) (Nat.ble 71 y)) (Nat.ble 69 y)) (Bool.rec (motive := fun _ => List ZFO) (Bool.rec (motive := fun _ => List ZFO) (Bool.rec (motive := fun _ => List ZFO) (q_73_0) (q_74_0) (Nat.ble 74 y)) (Bool.rec (motive := fun _ => List ZFO) (q_75_0) (q_76_0) (Nat.ble 76 y)) (Nat.ble 75 y)) (Bool.rec (motive := fun _ => List ZFO) (Bool.rec (motive := fun _ => List ZFO) (q_77_0) (q_78_0) (Nat.ble 78 y)) (Bool.rec (motive := fun _ => List ZFO) (q_79_0) (q_80_0) (Nat.ble 80 y)) (Nat.ble 79 y)) (Nat.ble 77 y)) (Nat.ble 73 y)) (Bool.rec (motive := fun _ => List ZFO) (Bool.rec (motive := fun _ => List ZFO) (Bool.rec (motive := fun _ => List ZFO) (Bool.rec (motive := fun _ => List ZFO) (q_81_0) (q_82_0) (Nat.ble 82 y)) (Bool.rec (motive := fun _ => List ZFO) (q_83_0) (q_84_0) (Nat.ble 84 y)) (Nat.ble 83 y)) (Bool.rec (motive := fun _ => List ZFO) (Bool.rec (motive := fun _ => List ZFO) (q_85_0) (q_86_0) (Nat.ble 86 y)) (Bool.rec (motive := fun _ => List ZFO) (q_87_0) (q_88_0) (Nat.ble 88 y)) (Nat.ble 87 y)) (Nat.ble 85 y)) (Bool.rec (motive := fun _ => List ZFO) (Bool.rec (motive := fun _ => List ZFO) (Bool.rec (motive := fun _ => List ZFO) (q_89_0) (q_90_0) (Nat.ble 90 y)) (Bool.rec (motive := fun _ => List ZFO) (q_91_0) (q_92_0) (Nat.ble 92 y)) (Nat.ble 91 y)) (Bool.rec (motive := fun _ => List ZFO) (Bool.rec (motive := fun _ => List ZFO) (q_93_0) (q_94_0) (Nat.ble 94 y)) (Bool.rec (motive := fun _ => List ZFO) (q_95_0) (Bool.rec (motive := fun _ => List ZFO) (q_96_0) (q_97_0) (Nat.ble 97 y)) (Nat.ble 96 y)) (Nat.ble 95 y)) (Nat.ble 93 y)) (Nat.ble 89 y)) (Nat.ble 81 y)) (Bool.rec (motive := fun _ => List ZFO) (Bool.rec (motive := fun _ => List ZFO) (Bool.rec (motive := fun _ => List ZFO) (Bool.rec (motive := fun _ => List ZFO) (Bool.rec (motive := fun _ => List ZFO) (q_98_0) (q_99_0) (Nat.ble 99 y)) (Bool.rec (motive := fun _ => List ZFO) (q_100_0) (q_101_0) (Nat.ble 101 y)) (Nat.ble 100 y)) (Bool.rec (motive := fun _ => List ZFO) (Bool.rec (motive := fun _ => List ZFO) (q_102_0) (q_103_0) (Nat.ble 103 y)) (Bool.rec (motive := fun _ => List ZFO) (q_104_0) (q_105_0) (Nat.ble 105 y)) (Nat.ble 104 y)) (Nat.ble 102 y)) (Bool.rec (motive := fun _ => List ZFO) (Bool.rec (motive := fun _ => List ZFO) (Bool.rec (motive := fun _ => List ZFO) (q_106_0) (q_107_0) (Nat.ble 107 y)) (Bool.rec (motive := fun _ => List ZFO) (q_108_0) (q_109_0) (Nat.ble 109 y)) (Nat.ble 108 y)) (Bool.rec (motive := fun _ => List ZFO) (Bool.rec (motive := fun _ => List ZFO) (q_110_0) (q_111_0) (Nat.ble 111 y)) (Bool.rec (motive := fun _ => List ZFO) (q_112_0) (q_113_0) (Nat.ble 113 y)) (Nat.ble 112 y)) (Nat.ble 110 y)) (Nat.ble 106 y)) (Bool.rec (motive := fun _ => List ZFO) (Bool.rec (motive := fun _ => List ZFO) (Bool.rec (motive := fun _ => List ZFO) (Bool.rec (motive := fun _ => List ZFO) (q_114_0) (q_115_0) (Nat.ble 115 y)) (Bool.rec (motive := fun _ => List ZFO) (q_116_0) (q_117_0) (Nat.ble 117 y)) (Nat.ble 116 y)) (Bool.rec (motive := fun _ => List ZFO) (Bool.rec (motive := fun _ => List ZFO) (q_118_0) (q_119_0) (Nat.ble 119 y)) (Bool.rec (motive := fun _ => List ZFO) (q_120_0) (q_121_0) (Nat.ble 121 y)) (Nat.ble 120 y)) (Nat.ble 118 y)) (Bool.rec (motive := fun _ => List ZFO) (Bool.rec (motive := fun _ => List ZFO) (Bool.rec (motive := fun _ => List ZFO) (q_122_0) (q_123_0) (Nat.ble 123 y)) (Bool.rec (motive := fun _ => List ZFO) (q_124_0) (q_125_0) (Nat.ble 125 y)) (Nat.ble 124 y)) (Bool.rec (motive := fun _ => List ZFO) (Bool.rec (motive := fun _ => List ZFO) (q_126_0) (q_127_0) (Nat.ble 127 y)) (Bool.rec (motive := fun _ => List ZFO) (q_128_0) (Bool.rec (motive := fun _ => List ZFO) (q_129_0) (q_130_0) (Nat.ble 130 y)) (Nat.ble 129 y)) (Nat.ble 128 y)) (Nat.ble 126 y)) (Nat.ble 122 y)) (Nat.ble 114 y)) (Nat.ble 98 y)) (Nat.ble 65 y)
noncomputable def jF (y : Nat) : Nat → List ZFO := Bool.rec (motive := fun _ => Nat → List ZFO) (Bool.rec (motive := fun _ => Nat → List ZFO) (Bool.rec (motive := fun _ => Nat → List ZFO) (Bool.rec (motive := fun _ => Nat → List ZFO) (Bool.rec (motive := fun _ => Nat → List ZFO) (Bool.rec (motive := fun _ => Nat → List ZFO) (Bool.rec (motive := fun _ => Nat → List ZFO) (j_0) (j_1) (Nat.ble 1 y)) (Bool.rec (motive := fun _ => Nat → List ZFO) (j_2) (j_3) (Nat.ble 3 y)) (Nat.ble 2 y)) (Bool.rec (motive := fun _ => Nat → List ZFO) (Bool.rec (motive := fun _ => Nat → List ZFO) (j_4) (j_5) (Nat.ble 5 y)) (Bool.rec (motive := fun _ => Nat → List ZFO) (j_6) (j_7) (Nat.ble 7 y)) (Nat.ble 6 y)) (Nat.ble 4 y)) (Bool.rec (motive := fun _ => Nat → List ZFO) (Bool.rec (motive := fun _ => Nat → List ZFO) (Bool.rec (motive := fun _ => Nat → List ZFO) (j_8) (j_9) (Nat.ble 9 y)) (Bool.rec (motive := fun _ => Nat → List ZFO) (j_10) (j_11) (Nat.ble 11 y)) (Nat.ble 10 y)) (Bool.rec (motive := fun _ => Nat → List ZFO) (Bool.rec (motive := fun _ => Nat → List ZFO) (j_12) (j_13) (Nat.ble 13 y)) (Bool.rec (motive := fun _ => Nat → List ZFO) (j_14) (j_15) (Nat.ble 15 y)) (Nat.ble 14 y)) (Nat.ble 12 y)) (Nat.ble 8 y)) (Bool.rec (motive := fun _ => Nat → List ZFO) (Bool.rec (motive := fun _ => Nat → List ZFO) (Bool.rec (motive := fun _ => Nat → List ZFO) (Bool.rec (motive := fun _ => Nat → List ZFO) (j_16) (j_17) (Nat.ble 17 y)) (Bool.rec (motive := fun _ => Nat → List ZFO) (j_18) (j_19) (Nat.ble 19 y)) (Nat.ble 18 y)) (Bool.rec (motive := fun _ => Nat → List ZFO) (Bool.rec (motive := fun _ => Nat → List ZFO) (j_20) (j_21) (Nat.ble 21 y)) (Bool.rec (motive := fun _ => Nat → List ZFO) (j_22) (j_23) (Nat.ble 23 y)) (Nat.ble 22 y)) (Nat.ble 20 y)) (Bool.rec (motive := fun _ => Nat → List ZFO) (Bool.rec (motive := fun _ => Nat → List ZFO) (Bool.rec (motive := fun _ => Nat → List ZFO) (j_24) (j_25) (Nat.ble 25 y)) (Bool.rec (motive := fun _ => Nat → List ZFO) (j_26) (j_27) (Nat.ble 27 y)) (Nat.ble 26 y)) (Bool.rec (motive := fun _ => Nat → List ZFO) (Bool.rec (motive := fun _ => Nat → List ZFO) (j_28) (j_29) (Nat.ble 29 y)) (Bool.rec (motive := fun _ => Nat → List ZFO) (j_30) (j_31) (Nat.ble 31 y)) (Nat.ble 30 y)) (Nat.ble 28 y)) (Nat.ble 24 y)) (Nat.ble 16 y)) (Bool.rec (motive := fun _ => Nat → List ZFO) (Bool.rec (motive := fun _ => Nat → List ZFO) (Bool.rec (motive := fun _ => Nat → List ZFO) (Bool.rec (motive := fun _ => Nat → List ZFO) (Bool.rec (motive := fun _ => Nat → List ZFO) (j_32) (j_33) (Nat.ble 33 y)) (Bool.rec (motive := fun _ => Nat → List ZFO) (j_34) (j_35) (Nat.ble 35 y)) (Nat.ble 34 y)) (Bool.rec (motive := fun _ => Nat → List ZFO) (Bool.rec (motive := fun _ => Nat → List ZFO) (j_36) (j_37) (Nat.ble 37 y)) (Bool.rec (motive := fun _ => Nat → List ZFO) (j_38) (j_39) (Nat.ble 39 y)) (Nat.ble 38 y)) (Nat.ble 36 y)) (Bool.rec (motive := fun _ => Nat → List ZFO) (Bool.rec (motive := fun _ => Nat → List ZFO) (Bool.rec (motive := fun _ => Nat → List ZFO) (j_40) (j_41) (Nat.ble 41 y)) (Bool.rec (motive := fun _ => Nat → List ZFO) (j_42) (j_43) (Nat.ble 43 y)) (Nat.ble 42 y)) (Bool.rec (motive := fun _ => Nat → List ZFO) (Bool.rec (motive := fun _ => Nat → List ZFO) (j_44) (j_45) (Nat.ble 45 y)) (Bool.rec (motive := fun _ => Nat → List ZFO) (j_46) (j_47) (Nat.ble 47 y)) (Nat.ble 46 y)) (Nat.ble 44 y)) (Nat.ble 40 y)) (Bool.rec (motive := fun _ => Nat → List ZFO) (Bool.rec (motive := fun _ => Nat → List ZFO) (Bool.rec (motive := fun _ => Nat → List ZFO) (Bool.rec (motive := fun _ => Nat → List ZFO) (j_48) (j_49) (Nat.ble 49 y)) (Bool.rec (motive := fun _ => Nat → List ZFO) (j_50) (j_51) (Nat.ble 51 y)) (Nat.ble 50 y)) (Bool.rec (motive := fun _ => Nat → List ZFO) (Bool.rec (motive := fun _ => Nat → List ZFO) (j_52) (j_53) (Nat.ble 53 y)) (Bool.rec (motive := fun _ => Nat → List ZFO) (j_54) (j_55) (Nat.ble 55 y)) (Nat.ble 54 y)) (Nat.ble 52 y)) (Bool.rec (motive := fun _ => Nat → List ZFO) (Bool.rec (motive := fun _ => Nat → List ZFO) (Bool.rec (motive := fun _ => Nat → List ZFO) (j_56) (j_57) (Nat.ble 57 y)) (Bool.rec (motive := fun _ => Nat → List ZFO) (j_58) (j_59) (Nat.ble 59 y)) (Nat.ble 58 y)) (Bool.rec (motive := fun _ => Nat → List ZFO) (Bool.rec (motive := fun _ => Nat → List ZFO) (j_60) (j_61) (Nat.ble 61 y)) (Bool.rec (motive := fun _ => Nat → List ZFO) (j_62) (Bool.rec (motive := fun _ => Nat → List ZFO) (j_63) (j_64) (Nat.ble 64 y)) (Nat.ble 63 y)) (Nat.ble 62 y)) (Nat.ble 60 y)) (Nat.ble 56 y)) (Nat.ble 48 y)) (Nat.ble 32 y)) (Bool.rec (motive := fun _ => Nat → List ZFO) (Bool.rec (motive := fun _ => Nat → List ZFO) (Bool.rec (motive := fun _ => Nat → List ZFO) (Bool.rec (motive := fun _ => Nat → List ZFO) (Bool.rec (motive := fun _ => Nat → List ZFO) (Bool.rec (motive := fun _ => Nat → List ZFO) (j_65) (j_66) (Nat.ble 66 y)) (Bool.rec (motive := fun _ => Nat → List ZFO) (j_67) (j_68) (Nat.ble 68 y)) (Nat.ble 67 y)) (Bool.rec (motive := fun _ => Nat → List ZFO) (Bool.rec (motive := fun _ => Nat → List ZFO) (j_69) (j_70) (Nat.ble 70 y)) (Bool.rec (motive := fun _ => Nat → List ZFO) (j_71) (j_72) (Nat.ble 72 y)) (Nat.ble 71 y)) (Nat.ble 69 y)) (Bool.rec (motive := fun _ => Nat → List ZFO) (Bool.rec (motive := fun _ => Nat → List ZFO) (Bool.rec (motive := fun _ => Nat → List ZFO) (j_73) (j_74) (Nat.ble 74 y)) (Bool.rec (motive := fun _ => Nat → List ZFO) (j_75) (j_76) (Nat.ble 76 y)) (Nat.ble 75 y)) (Bool.rec (motive := fun _ => Nat → List ZFO) (Bool.rec (motive := fun _ => Nat → List ZFO) (j_77) (j_78) (Nat.ble 78 y)) (Bool.rec (motive := fun _ => Nat → List ZFO) (j_79) (j_80) (Nat.ble 80 y)) (Nat.ble 79 y)) (Nat.ble 77 y)) (Nat.ble 73 y)) (Bool.rec (motive := fun _ => Nat → List ZFO) (Bool.rec (motive := fun _ => Nat → List ZFO) (Bool.rec (motive := fun _ => Nat → List ZFO) (Bool.rec (motive := fun _ => Nat → List ZFO) (j_81) (j_82) (Nat.ble 82 y)) (Bool.rec (motive := fun _ => Nat → List ZFO) (j_83) (j_84) (Nat.ble 84 y)) (Nat.ble 83 y)) (Bool.rec (motive := fun _ => Nat → List ZFO) (Bool.rec (motive := fun _ => Nat → List ZFO) (j_85) (j_86) (Nat.ble 86 y)) (Bool.rec (motive := fun _ => Nat → List ZFO) (j_87) (j_88) (Nat.ble 88 y)) (Nat.ble 87 y)) (Nat.ble 85 y)) (Bool.rec (motive := fun _ => Nat → List ZFO) (Bool.rec (motive := fun _ => Nat → List ZFO) (Bool.rec (motive := fun _ => Nat → List ZFO) (j_89) (j_90) (Nat.ble 90 y)) (Bool.rec (motive := fun _ => Nat → List ZFO) (j_91) (j_92) (Nat.ble 92 y)) (Nat.ble 91 y)) (Bool.rec (motive := fun _ => Nat → List ZFO) (Bool.rec (motive := fun _ => Nat → List ZFO) (j_93) (j_94) (Nat.ble 94 y)) (Bool.rec (motive := fun _ => Nat → List ZFO) (j_95) (Bool.rec (motive := fun _ => Nat → List ZFO) (j_96) (j_97) (Nat.ble 97 y)) (Nat.ble 96 y)) (Nat.ble 95 y)) (Nat.ble 93 y)) (Nat.ble 89 y)) (Nat.ble 81 y)) (Bool.rec (motive := fun _ => Nat → List ZFO) (Bool.rec (motive := fun _ => Nat → List ZFO) (Bool.rec (motive := fun _ => Nat → List ZFO) (Bool.rec (motive := fun _ => Nat → List ZFO) (Bool.rec (motive := fun _ => Nat → List ZFO) (j_98) (j_99) (Nat.ble 99 y)) (Bool.rec (motive := fun _ => Nat → List ZFO) (j_100) (j_101) (Nat.ble 101 y)) (Nat.ble 100 y)) (Bool.rec (motive := fun _ => Nat → List ZFO) (Bool.rec (motive := fun _ => Nat → List ZFO) (j_102) (j_103) (Nat.ble 103 y)) (Bool.rec (motive := fun _ => Nat → List ZFO) (j_104) (j_105) (Nat.ble 105 y)) (Nat.ble 104 y)) (Nat.ble 102 y)) (Bool.rec (motive := fun _ => Nat → List ZFO) (Bool.rec (motive := fun _ => Nat → List ZFO) (Bool.rec (motive := fun _ => Nat → List ZFO) (j_106) (j_107) (Nat.ble 107 y)) (Bool.rec (motive := fun _ => Nat → List ZFO) (j_108) (j_109) (Nat.ble 109 y)) (Nat.ble 108 y)) (Bool.rec (motive := fun _ => Nat → List ZFO) (Bool.rec (motive := fun _ => Nat → List ZFO) (j_110) (j_111) (Nat.ble 111 y)) (Bool.rec (motive := fun _ => Nat → List ZFO) (j_112) (j_113) (Nat.ble 113 y)) (Nat.ble 112 y)) (Nat.ble 110 y)) (Nat.ble 106 y)) (Bool.rec (motive := fun _ => Nat → List ZFO) (Bool.rec (motive := fun _ => Nat → List ZFO) (Bool.rec (motive := fun _ => Nat → List ZFO) (Bool.rec (motive := fun _ => Nat → List ZFO) (j_114) (j_115) (Nat.ble 115 y)) (Bool.rec (motive := fun _ => Nat → List ZFO) (j_116) (j_117) (Nat.ble 117 y)) (Nat.ble 116 y)) (Bool.rec (motive := fun _ => Nat → List ZFO) (Bool.rec (motive := fun _ => Nat → List ZFO) (j_118) (j_119) (Nat.ble 119 y)) (Bool.rec (motive := fun _ => Nat → List ZFO) (j_120) (j_121) (Nat.ble 121 y)) (Nat.ble 120 y)) (Nat.ble 118 y)) (Bool.rec (motive := fun _ => Nat → List ZFO) (Bool.rec (motive := fun _ => Nat → List ZFO) (Bool.rec (motive := fun _ => Nat → List ZFO) (j_122) (j_123) (Nat.ble 123 y)) (Bool.rec (motive := fun _ => Nat → List ZFO) (j_124) (j_125) (Nat.ble 125 y)) (Nat.ble 124 y)) (Bool.rec (motive := fun _ => Nat → List ZFO) (Bool.rec (motive := fun _ => Nat → List ZFO) (j_126) (j_127) (Nat.ble 127 y)) (Bool.rec (motive := fun _ => Nat → List ZFO) (j_128) (Bool.rec (motive := fun _ => Nat → List ZFO) (j_129) (j_130) (Nat.ble 130 y)) (Nat.ble 129 y)) (Nat.ble 128 y)) (Nat.ble 126 y)) (Nat.ble 122 y)) (Nat.ble 114 y)) (Nat.ble 98 y)) (Nat.ble 65 y)
noncomputable def mxF (y : Nat) : Nat := Bool.rec (motive := fun _ => Nat) (Bool.rec (motive := fun _ => Nat) (Bool.rec (motive := fun _ => Nat) (Bool.rec (motive := fun _ => Nat) (Bool.rec (motive := fun _ => Nat) (Bool.rec (motive := fun _ => Nat) (Bool.rec (motive := fun _ => Nat) (2) (6) (Nat.ble 1 y)) (Bool.rec (motive := fun _ => Nat) (7) (8) (Nat.ble 3 y)) (Nat.ble 2 y)) (Bool.rec (motive := fun _ => Nat) (Bool.rec (motive := fun _ => Nat) (7) (4) (Nat.ble 5 y)) (Bool.rec (motive := fun _ => Nat) (3) (6) (Nat.ble 7 y)) (Nat.ble 6 y)) (Nat.ble 4 y)) (Bool.rec (motive := fun _ => Nat) (Bool.rec (motive := fun _ => Nat) (Bool.rec (motive := fun _ => Nat) (9) (8) (Nat.ble 9 y)) (Bool.rec (motive := fun _ => Nat) (4) (4) (Nat.ble 11 y)) (Nat.ble 10 y)) (Bool.rec (motive := fun _ => Nat) (Bool.rec (motive := fun _ => Nat) (8) (6) (Nat.ble 13 y)) (Bool.rec (motive := fun _ => Nat) (2) (3) (Nat.ble 15 y)) (Nat.ble 14 y)) (Nat.ble 12 y)) (Nat.ble 8 y)) (Bool.rec (motive := fun _ => Nat) (Bool.rec (motive := fun _ => Nat) (Bool.rec (motive := fun _ => Nat) (Bool.rec (motive := fun _ => Nat) (4) (2) (Nat.ble 17 y)) (Bool.rec (motive := fun _ => Nat) (4) (1) (Nat.ble 19 y)) (Nat.ble 18 y)) (Bool.rec (motive := fun _ => Nat) (Bool.rec (motive := fun _ => Nat) (2) (3) (Nat.ble 21 y)) (Bool.rec (motive := fun _ => Nat) (2) (1) (Nat.ble 23 y)) (Nat.ble 22 y)) (Nat.ble 20 y)) (Bool.rec (motive := fun _ => Nat) (Bool.rec (motive := fun _ => Nat) (Bool.rec (motive := fun _ => Nat) (2) (2) (Nat.ble 25 y)) (Bool.rec (motive := fun _ => Nat) (1) (2) (Nat.ble 27 y)) (Nat.ble 26 y)) (Bool.rec (motive := fun _ => Nat) (Bool.rec (motive := fun _ => Nat) (2) (3) (Nat.ble 29 y)) (Bool.rec (motive := fun _ => Nat) (3) (1) (Nat.ble 31 y)) (Nat.ble 30 y)) (Nat.ble 28 y)) (Nat.ble 24 y)) (Nat.ble 16 y)) (Bool.rec (motive := fun _ => Nat) (Bool.rec (motive := fun _ => Nat) (Bool.rec (motive := fun _ => Nat) (Bool.rec (motive := fun _ => Nat) (Bool.rec (motive := fun _ => Nat) (2) (5) (Nat.ble 33 y)) (Bool.rec (motive := fun _ => Nat) (3) (3) (Nat.ble 35 y)) (Nat.ble 34 y)) (Bool.rec (motive := fun _ => Nat) (Bool.rec (motive := fun _ => Nat) (1) (3) (Nat.ble 37 y)) (Bool.rec (motive := fun _ => Nat) (4) (2) (Nat.ble 39 y)) (Nat.ble 38 y)) (Nat.ble 36 y)) (Bool.rec (motive := fun _ => Nat) (Bool.rec (motive := fun _ => Nat) (Bool.rec (motive := fun _ => Nat) (3) (3) (Nat.ble 41 y)) (Bool.rec (motive := fun _ => Nat) (5) (2) (Nat.ble 43 y)) (Nat.ble 42 y)) (Bool.rec (motive := fun _ => Nat) (Bool.rec (motive := fun _ => Nat) (4) (3) (Nat.ble 45 y)) (Bool.rec (motive := fun _ => Nat) (2) (2) (Nat.ble 47 y)) (Nat.ble 46 y)) (Nat.ble 44 y)) (Nat.ble 40 y)) (Bool.rec (motive := fun _ => Nat) (Bool.rec (motive := fun _ => Nat) (Bool.rec (motive := fun _ => Nat) (Bool.rec (motive := fun _ => Nat) (3) (2) (Nat.ble 49 y)) (Bool.rec (motive := fun _ => Nat) (3) (1) (Nat.ble 51 y)) (Nat.ble 50 y)) (Bool.rec (motive := fun _ => Nat) (Bool.rec (motive := fun _ => Nat) (2) (2) (Nat.ble 53 y)) (Bool.rec (motive := fun _ => Nat) (5) (6) (Nat.ble 55 y)) (Nat.ble 54 y)) (Nat.ble 52 y)) (Bool.rec (motive := fun _ => Nat) (Bool.rec (motive := fun _ => Nat) (Bool.rec (motive := fun _ => Nat) (2) (3) (Nat.ble 57 y)) (Bool.rec (motive := fun _ => Nat) (3) (2) (Nat.ble 59 y)) (Nat.ble 58 y)) (Bool.rec (motive := fun _ => Nat) (Bool.rec (motive := fun _ => Nat) (3) (2) (Nat.ble 61 y)) (Bool.rec (motive := fun _ => Nat) (2) (Bool.rec (motive := fun _ => Nat) (1) (2) (Nat.ble 64 y)) (Nat.ble 63 y)) (Nat.ble 62 y)) (Nat.ble 60 y)) (Nat.ble 56 y)) (Nat.ble 48 y)) (Nat.ble 32 y)) (Bool.rec (motive := fun _ => Nat) (Bool.rec (motive := fun _ => Nat) (Bool.rec (motive := fun _ => Nat) (Bool.rec (motive := fun _ => Nat) (Bool.rec (motive := fun _ => Nat) (Bool.rec (motive := fun _ => Nat) (1) (1) (Nat.ble 66 y)) (Bool.rec (motive := fun _ => Nat) (2) (5) (Nat.ble 68 y)) (Nat.ble 67 y)) (Bool.rec (motive := fun _ => Nat) (Bool.rec (motive := fun _ => Nat) (2) (3) (Nat.ble 70 y)) (Bool.rec (motive := fun _ => Nat) (3) (6) (Nat.ble 72 y)) (Nat.ble 71 y)) (Nat.ble 69 y)) (Bool.rec (motive := fun _ => Nat) (Bool.rec (motive := fun _ => Nat) (Bool.rec (motive := fun _ => Nat) (2) (2) (Nat.ble 74 y)) (Bool.rec (motive := fun _ => Nat) (5) (3) (Nat.ble 76 y)) (Nat.ble 75 y)) (Bool.rec (motive := fun _ => Nat) (Bool.rec (motive := fun _ => Nat) (4) (4) (Nat.ble 78 y)) (Bool.rec (motive := fun _ => Nat) (1) (6) (Nat.ble 80 y)) (Nat.ble 79 y)) (Nat.ble 77 y)) (Nat.ble 73 y)) (Bool.rec (motive := fun _ => Nat) (Bool.rec (motive := fun _ => Nat) (Bool.rec (motive := fun _ => Nat) (Bool.rec (motive := fun _ => Nat) (3) (2) (Nat.ble 82 y)) (Bool.rec (motive := fun _ => Nat) (2) (2) (Nat.ble 84 y)) (Nat.ble 83 y)) (Bool.rec (motive := fun _ => Nat) (Bool.rec (motive := fun _ => Nat) (4) (3) (Nat.ble 86 y)) (Bool.rec (motive := fun _ => Nat) (4) (2) (Nat.ble 88 y)) (Nat.ble 87 y)) (Nat.ble 85 y)) (Bool.rec (motive := fun _ => Nat) (Bool.rec (motive := fun _ => Nat) (Bool.rec (motive := fun _ => Nat) (4) (2) (Nat.ble 90 y)) (Bool.rec (motive := fun _ => Nat) (2) (4) (Nat.ble 92 y)) (Nat.ble 91 y)) (Bool.rec (motive := fun _ => Nat) (Bool.rec (motive := fun _ => Nat) (5) (3) (Nat.ble 94 y)) (Bool.rec (motive := fun _ => Nat) (3) (Bool.rec (motive := fun _ => Nat) (2) (2) (Nat.ble 97 y)) (Nat.ble 96 y)) (Nat.ble 95 y)) (Nat.ble 93 y)) (Nat.ble 89 y)) (Nat.ble 81 y)) (Bool.rec (motive := fun _ => Nat) (Bool.rec (motive := fun _ => Nat) (Bool.rec (motive := fun _ => Nat) (Bool.rec (motive := fun _ => Nat) (Bool.rec (motive := fun _ => Nat) (5) (4) (Nat.ble 99 y)) (Bool.rec (motive := fun _ => Nat) (7) (5) (Nat.ble 101 y)) (Nat.ble 100 y)) (Bool.rec (motive := fun _ => Nat) (Bool.rec (motive := fun _ => Nat) (1) (3) (Nat.ble 103 y)) (Bool.rec (motive := fun _ => Nat) (6) (3) (Nat.ble 105 y)) (Nat.ble 104 y)) (Nat.ble 102 y)) (Bool.rec (motive := fun _ => Nat) (Bool.rec (motive := fun _ => Nat) (Bool.rec (motive := fun _ => Nat) (2) (1) (Nat.ble 107 y)) (Bool.rec (motive := fun _ => Nat) (1) (2) (Nat.ble 109 y)) (Nat.ble 108 y)) (Bool.rec (motive := fun _ => Nat) (Bool.rec (motive := fun _ => Nat) (3) (2) (Nat.ble 111 y)) (Bool.rec (motive := fun _ => Nat) (1) (2) (Nat.ble 113 y)) (Nat.ble 112 y)) (Nat.ble 110 y)) (Nat.ble 106 y)) (Bool.rec (motive := fun _ => Nat) (Bool.rec (motive := fun _ => Nat) (Bool.rec (motive := fun _ => Nat) (Bool.rec (motive := fun _ => Nat) (5) (1) (Nat.ble 115 y)) (Bool.rec (motive := fun _ => Nat) (1) (2) (Nat.ble 117 y)) (Nat.ble 116 y)) (Bool.rec (motive := fun _ => Nat) (Bool.rec (motive := fun _ => Nat) (2) (2) (Nat.ble 119 y)) (Bool.rec (motive := fun _ => Nat) (1) (2) (Nat.ble 121 y)) (Nat.ble 120 y)) (Nat.ble 118 y)) (Bool.rec (motive := fun _ => Nat) (Bool.rec (motive := fun _ => Nat) (Bool.rec (motive := fun _ => Nat) (1) (2) (Nat.ble 123 y)) (Bool.rec (motive := fun _ => Nat) (1) (3) (Nat.ble 125 y)) (Nat.ble 124 y)) (Bool.rec (motive := fun _ => Nat) (Bool.rec (motive := fun _ => Nat) (2) (3) (Nat.ble 127 y)) (Bool.rec (motive := fun _ => Nat) (5) (Bool.rec (motive := fun _ => Nat) (4) (16) (Nat.ble 130 y)) (Nat.ble 129 y)) (Nat.ble 128 y)) (Nat.ble 126 y)) (Nat.ble 122 y)) (Nat.ble 114 y)) (Nat.ble 98 y)) (Nat.ble 65 y)
abbrev te0 : FZ0 := (99, 0, 0, 0)
abbrev te1 : FZ1 := (te0, te0)
abbrev te2 : FZ2 := (te1, te1)
abbrev te3 : FZ3 := (te2, te2)
abbrev te4 : FZ4 := (te3, te3)
abbrev te5 : FZ5 := (te4, te4)
abbrev te6 : FZ6 := (te5, te5)
abbrev te7 : FZ7 := (te6, te6)
abbrev te8 : FZ8 := (te7, te7)
abbrev lo64 (p s c sp d : Nat) : List Nat := [17179869184, p, s, c, sp, d, 4294967296, 4294967296, 4294967296, 4294967296, 4294967296, 4294967296, 4294967296, 4294967296, 4294967296, 4294967296]
noncomputable def runF (p s c sp d : Nat) : ZFR := ev (evM cdF jF mxF 100000 30) (jF 130) 100000 q_130_64 [] (lo64 p s c sp d) (0, 0, te8)
noncomputable def okF (r : ZFR) : Bool := Option.rec (motive := fun _ => Bool) false (fun q => Nat.beq q.1 1) r
