section
-- ===== PART A: goes FIRST, ahead of the names: the tables' words, and 'selects' of the private methods out of them =====
/-- a private method of a class that the tables say can be made, by its rows of tables_1 -/
def lw_okq (q : MethodName × Nat) : Prop := (q.1.cls ≠ "java/lang/invoke/MethodHandle" ∧ q.1.cls ≠ "java/lang/invoke/VarHandle") ∧ Cond.instantiable q.1.cls q.2 ∈ tables_1 ∧ Cond.privateMethod q.1 ∈ tables_1 ∧ Cond.instanceMethod q.1 ∈ tables_1
theorem lw_p0 : lw_okq (⟨"MountSpaces$Mounts", "timesFilled", "([I)I"⟩, 15) := ⟨⟨by decide +kernel, by decide +kernel⟩, List.mem_of_getElem? (i := 72) (by decide +kernel), List.mem_of_getElem? (i := 456) (by decide +kernel), List.mem_of_getElem? (i := 457) (by decide +kernel)⟩
theorem lw_p1 : lw_okq (⟨"MountSpaces", "sumOfVolumes", "(J)J"⟩, 11) := ⟨⟨by decide +kernel, by decide +kernel⟩, List.mem_of_getElem? (i := 27) (by decide +kernel), List.mem_of_getElem? (i := 460) (by decide +kernel), List.mem_of_getElem? (i := 461) (by decide +kernel)⟩
theorem lw_p2 : lw_okq (⟨"MountSpaces", "sumOfMount", "(JI)J"⟩, 11) := ⟨⟨by decide +kernel, by decide +kernel⟩, List.mem_of_getElem? (i := 27) (by decide +kernel), List.mem_of_getElem? (i := 472) (by decide +kernel), List.mem_of_getElem? (i := 473) (by decide +kernel)⟩
theorem lw_p3 : lw_okq (⟨"MountSpaces$Followers", "reachFrom", "(I)V"⟩, 8) := ⟨⟨by decide +kernel, by decide +kernel⟩, List.mem_of_getElem? (i := 187) (by decide +kernel), List.mem_of_getElem? (i := 484) (by decide +kernel), List.mem_of_getElem? (i := 485) (by decide +kernel)⟩
theorem lw_p4 : lw_okq (⟨"MountSpaces$Followers", "note", "(I)V"⟩, 8) := ⟨⟨by decide +kernel, by decide +kernel⟩, List.mem_of_getElem? (i := 187) (by decide +kernel), List.mem_of_getElem? (i := 488) (by decide +kernel), List.mem_of_getElem? (i := 489) (by decide +kernel)⟩
theorem lw_p5 : lw_okq (⟨"MountSpaces$Sight", "note", "()V"⟩, 5) := ⟨⟨by decide +kernel, by decide +kernel⟩, List.mem_of_getElem? (i := 267) (by decide +kernel), List.mem_of_getElem? (i := 512) (by decide +kernel), List.mem_of_getElem? (i := 513) (by decide +kernel)⟩
theorem lw_p6 : lw_okq (⟨"MountSpaces$Sight", "lookInto", "(II)V"⟩, 5) := ⟨⟨by decide +kernel, by decide +kernel⟩, List.mem_of_getElem? (i := 267) (by decide +kernel), List.mem_of_getElem? (i := 516) (by decide +kernel), List.mem_of_getElem? (i := 517) (by decide +kernel)⟩
theorem lw_p7 : lw_okq (⟨"MountSpaces", "checkLength", "(I)V"⟩, 11) := ⟨⟨by decide +kernel, by decide +kernel⟩, List.mem_of_getElem? (i := 27) (by decide +kernel), List.mem_of_getElem? (i := 531) (by decide +kernel), List.mem_of_getElem? (i := 532) (by decide +kernel)⟩
theorem lw_p8 : lw_okq (⟨"java/lang/Throwable", "fillInStackTrace", "(I)Ljava/lang/Throwable;"⟩, 6) := ⟨⟨by decide +kernel, by decide +kernel⟩, List.mem_of_getElem? (i := 574) (by decide +kernel), List.mem_of_getElem? (i := 572) (by decide +kernel), List.mem_of_getElem? (i := 573) (by decide +kernel)⟩
theorem lw_p9 : lw_okq (⟨"MountSpaces$Input", "isLetter", "(B)Z"⟩, 8) := ⟨⟨by decide +kernel, by decide +kernel⟩, List.mem_of_getElem? (i := 35) (by decide +kernel), List.mem_of_getElem? (i := 617) (by decide +kernel), List.mem_of_getElem? (i := 618) (by decide +kernel)⟩
theorem lw_p10 : lw_okq (⟨"MountSpaces$Setup", "readVolumes", "()Z"⟩, 5) := ⟨⟨by decide +kernel, by decide +kernel⟩, List.mem_of_getElem? (i := 315) (by decide +kernel), List.mem_of_getElem? (i := 690) (by decide +kernel), List.mem_of_getElem? (i := 691) (by decide +kernel)⟩
theorem lw_p11 : lw_okq (⟨"MountSpaces$Setup", "readVolume", "()Z"⟩, 5) := ⟨⟨by decide +kernel, by decide +kernel⟩, List.mem_of_getElem? (i := 315) (by decide +kernel), List.mem_of_getElem? (i := 703) (by decide +kernel), List.mem_of_getElem? (i := 704) (by decide +kernel)⟩
theorem lw_p12 : lw_okq (⟨"MountSpaces$Setup", "readInside", "(III)Z"⟩, 5) := ⟨⟨by decide +kernel, by decide +kernel⟩, List.mem_of_getElem? (i := 315) (by decide +kernel), List.mem_of_getElem? (i := 716) (by decide +kernel), List.mem_of_getElem? (i := 717) (by decide +kernel)⟩
theorem lw_p13 : lw_okq (⟨"MountSpaces$Setup", "readDirectory", "(III)Z"⟩, 5) := ⟨⟨by decide +kernel, by decide +kernel⟩, List.mem_of_getElem? (i := 315) (by decide +kernel), List.mem_of_getElem? (i := 720) (by decide +kernel), List.mem_of_getElem? (i := 721) (by decide +kernel)⟩
theorem lw_p14 : lw_okq (⟨"MountSpaces$Setup", "readRoot", "()Z"⟩, 5) := ⟨⟨by decide +kernel, by decide +kernel⟩, List.mem_of_getElem? (i := 315) (by decide +kernel), List.mem_of_getElem? (i := 729) (by decide +kernel), List.mem_of_getElem? (i := 730) (by decide +kernel)⟩
theorem lw_p15 : lw_okq (⟨"MountSpaces$Setup", "readVolumeName", "()I"⟩, 5) := ⟨⟨by decide +kernel, by decide +kernel⟩, List.mem_of_getElem? (i := 315) (by decide +kernel), List.mem_of_getElem? (i := 733) (by decide +kernel), List.mem_of_getElem? (i := 734) (by decide +kernel)⟩
def lw_privs_1 : List (MethodName × Nat) := [(⟨"MountSpaces$Mounts", "timesFilled", "([I)I"⟩, 15), (⟨"MountSpaces", "sumOfVolumes", "(J)J"⟩, 11), (⟨"MountSpaces", "sumOfMount", "(JI)J"⟩, 11), (⟨"MountSpaces$Followers", "reachFrom", "(I)V"⟩, 8), (⟨"MountSpaces$Followers", "note", "(I)V"⟩, 8), (⟨"MountSpaces$Sight", "note", "()V"⟩, 5), (⟨"MountSpaces$Sight", "lookInto", "(II)V"⟩, 5), (⟨"MountSpaces", "checkLength", "(I)V"⟩, 11), (⟨"java/lang/Throwable", "fillInStackTrace", "(I)Ljava/lang/Throwable;"⟩, 6), (⟨"MountSpaces$Input", "isLetter", "(B)Z"⟩, 8), (⟨"MountSpaces$Setup", "readVolumes", "()Z"⟩, 5), (⟨"MountSpaces$Setup", "readVolume", "()Z"⟩, 5), (⟨"MountSpaces$Setup", "readInside", "(III)Z"⟩, 5), (⟨"MountSpaces$Setup", "readDirectory", "(III)Z"⟩, 5), (⟨"MountSpaces$Setup", "readRoot", "()Z"⟩, 5), (⟨"MountSpaces$Setup", "readVolumeName", "()I"⟩, 5)]
theorem lw_r1 : ∀ q ∈ lw_privs_1, lw_okq q := List.forall_mem_cons.mpr ⟨lw_p0, List.forall_mem_cons.mpr ⟨lw_p1, List.forall_mem_cons.mpr ⟨lw_p2, List.forall_mem_cons.mpr ⟨lw_p3, List.forall_mem_cons.mpr ⟨lw_p4, List.forall_mem_cons.mpr ⟨lw_p5, List.forall_mem_cons.mpr ⟨lw_p6, List.forall_mem_cons.mpr ⟨lw_p7, List.forall_mem_cons.mpr ⟨lw_p8, List.forall_mem_cons.mpr ⟨lw_p9, List.forall_mem_cons.mpr ⟨lw_p10, List.forall_mem_cons.mpr ⟨lw_p11, List.forall_mem_cons.mpr ⟨lw_p12, List.forall_mem_cons.mpr ⟨lw_p13, List.forall_mem_cons.mpr ⟨lw_p14, List.forall_mem_cons.mpr ⟨lw_p15, fun _ h => absurd h List.not_mem_nil⟩⟩⟩⟩⟩⟩⟩⟩⟩⟩⟩⟩⟩⟩⟩⟩
theorem lw_p16 : lw_okq (⟨"MountSpaces$Setup", "readMount", "()Z"⟩, 5) := ⟨⟨by decide +kernel, by decide +kernel⟩, List.mem_of_getElem? (i := 315) (by decide +kernel), List.mem_of_getElem? (i := 743) (by decide +kernel), List.mem_of_getElem? (i := 744) (by decide +kernel)⟩
theorem lw_p17 : lw_okq (⟨"MountSpaces$Walker", "takeStep", "(LMountSpaces$Input;)Z"⟩, 3) := ⟨⟨by decide +kernel, by decide +kernel⟩, List.mem_of_getElem? (i := 243) (by decide +kernel), List.mem_of_getElem? (i := 753) (by decide +kernel), List.mem_of_getElem? (i := 754) (by decide +kernel)⟩
theorem lw_p18 : lw_okq (⟨"MountSpaces$Changer", "put", "(III)V"⟩, 6) := ⟨⟨by decide +kernel, by decide +kernel⟩, List.mem_of_getElem? (i := 181) (by decide +kernel), List.mem_of_getElem? (i := 782) (by decide +kernel), List.mem_of_getElem? (i := 783) (by decide +kernel)⟩
theorem lw_p19 : lw_okq (⟨"MountSpaces$Changer", "nameCopyGroups", "(II)V"⟩, 6) := ⟨⟨by decide +kernel, by decide +kernel⟩, List.mem_of_getElem? (i := 181) (by decide +kernel), List.mem_of_getElem? (i := 790) (by decide +kernel), List.mem_of_getElem? (i := 791) (by decide +kernel)⟩
theorem lw_p20 : lw_okq (⟨"MountSpaces$Changer", "copyOnto", "(IIIZ)V"⟩, 6) := ⟨⟨by decide +kernel, by decide +kernel⟩, List.mem_of_getElem? (i := 181) (by decide +kernel), List.mem_of_getElem? (i := 798) (by decide +kernel), List.mem_of_getElem? (i := 799) (by decide +kernel)⟩
theorem lw_p21 : lw_okq (⟨"MountSpaces$Changer", "copyGroupOf", "(I)I"⟩, 6) := ⟨⟨by decide +kernel, by decide +kernel⟩, List.mem_of_getElem? (i := 181) (by decide +kernel), List.mem_of_getElem? (i := 802) (by decide +kernel), List.mem_of_getElem? (i := 803) (by decide +kernel)⟩
theorem lw_p22 : lw_okq (⟨"MountSpaces$Setup", "takeAnswer", "(I)Z"⟩, 5) := ⟨⟨by decide +kernel, by decide +kernel⟩, List.mem_of_getElem? (i := 315) (by decide +kernel), List.mem_of_getElem? (i := 806) (by decide +kernel), List.mem_of_getElem? (i := 807) (by decide +kernel)⟩
theorem lw_p23 : lw_okq (⟨"MountSpaces$Setup", "readBind", "()Z"⟩, 5) := ⟨⟨by decide +kernel, by decide +kernel⟩, List.mem_of_getElem? (i := 315) (by decide +kernel), List.mem_of_getElem? (i := 811) (by decide +kernel), List.mem_of_getElem? (i := 812) (by decide +kernel)⟩
theorem lw_p24 : lw_okq (⟨"MountSpaces$Setup", "readMake", "()Z"⟩, 5) := ⟨⟨by decide +kernel, by decide +kernel⟩, List.mem_of_getElem? (i := 315) (by decide +kernel), List.mem_of_getElem? (i := 819) (by decide +kernel), List.mem_of_getElem? (i := 820) (by decide +kernel)⟩
theorem lw_p25 : lw_okq (⟨"MountSpaces$Setup", "kindOfWord", "()I"⟩, 5) := ⟨⟨by decide +kernel, by decide +kernel⟩, List.mem_of_getElem? (i := 315) (by decide +kernel), List.mem_of_getElem? (i := 824) (by decide +kernel), List.mem_of_getElem? (i := 825) (by decide +kernel)⟩
theorem lw_p26 : lw_okq (⟨"MountSpaces$Changer", "isInOtherMount", "(II)Z"⟩, 6) := ⟨⟨by decide +kernel, by decide +kernel⟩, List.mem_of_getElem? (i := 181) (by decide +kernel), List.mem_of_getElem? (i := 836) (by decide +kernel), List.mem_of_getElem? (i := 837) (by decide +kernel)⟩
theorem lw_p27 : lw_okq (⟨"MountSpaces", "checkVolume", "(I)V"⟩, 11) := ⟨⟨by decide +kernel, by decide +kernel⟩, List.mem_of_getElem? (i := 27) (by decide +kernel), List.mem_of_getElem? (i := 865) (by decide +kernel), List.mem_of_getElem? (i := 866) (by decide +kernel)⟩
theorem lw_p28 : lw_okq (⟨"MountSpaces", "rowOfMount", "(I)I"⟩, 11) := ⟨⟨by decide +kernel, by decide +kernel⟩, List.mem_of_getElem? (i := 27) (by decide +kernel), List.mem_of_getElem? (i := 901) (by decide +kernel), List.mem_of_getElem? (i := 902) (by decide +kernel)⟩
theorem lw_p29 : lw_okq (⟨"MountSpaces", "rowWithPlace", "(II)I"⟩, 11) := ⟨⟨by decide +kernel, by decide +kernel⟩, List.mem_of_getElem? (i := 27) (by decide +kernel), List.mem_of_getElem? (i := 938) (by decide +kernel), List.mem_of_getElem? (i := 939) (by decide +kernel)⟩
theorem lw_p30 : lw_okq (⟨"MountSpaces", "checkSpace", "(I)V"⟩, 11) := ⟨⟨by decide +kernel, by decide +kernel⟩, List.mem_of_getElem? (i := 27) (by decide +kernel), List.mem_of_getElem? (i := 952) (by decide +kernel), List.mem_of_getElem? (i := 953) (by decide +kernel)⟩
theorem lw_p31 : lw_okq (⟨"MountSpaces$PathText", "writeWayTo", "(I)V"⟩, 5) := ⟨⟨by decide +kernel, by decide +kernel⟩, List.mem_of_getElem? (i := 291) (by decide +kernel), List.mem_of_getElem? (i := 1008) (by decide +kernel), List.mem_of_getElem? (i := 1009) (by decide +kernel)⟩
def lw_privs_2 : List (MethodName × Nat) := [(⟨"MountSpaces$Setup", "readMount", "()Z"⟩, 5), (⟨"MountSpaces$Walker", "takeStep", "(LMountSpaces$Input;)Z"⟩, 3), (⟨"MountSpaces$Changer", "put", "(III)V"⟩, 6), (⟨"MountSpaces$Changer", "nameCopyGroups", "(II)V"⟩, 6), (⟨"MountSpaces$Changer", "copyOnto", "(IIIZ)V"⟩, 6), (⟨"MountSpaces$Changer", "copyGroupOf", "(I)I"⟩, 6), (⟨"MountSpaces$Setup", "takeAnswer", "(I)Z"⟩, 5), (⟨"MountSpaces$Setup", "readBind", "()Z"⟩, 5), (⟨"MountSpaces$Setup", "readMake", "()Z"⟩, 5), (⟨"MountSpaces$Setup", "kindOfWord", "()I"⟩, 5), (⟨"MountSpaces$Changer", "isInOtherMount", "(II)Z"⟩, 6), (⟨"MountSpaces", "checkVolume", "(I)V"⟩, 11), (⟨"MountSpaces", "rowOfMount", "(I)I"⟩, 11), (⟨"MountSpaces", "rowWithPlace", "(II)I"⟩, 11), (⟨"MountSpaces", "checkSpace", "(I)V"⟩, 11), (⟨"MountSpaces$PathText", "writeWayTo", "(I)V"⟩, 5)]
theorem lw_r2 : ∀ q ∈ lw_privs_2, lw_okq q := List.forall_mem_cons.mpr ⟨lw_p16, List.forall_mem_cons.mpr ⟨lw_p17, List.forall_mem_cons.mpr ⟨lw_p18, List.forall_mem_cons.mpr ⟨lw_p19, List.forall_mem_cons.mpr ⟨lw_p20, List.forall_mem_cons.mpr ⟨lw_p21, List.forall_mem_cons.mpr ⟨lw_p22, List.forall_mem_cons.mpr ⟨lw_p23, List.forall_mem_cons.mpr ⟨lw_p24, List.forall_mem_cons.mpr ⟨lw_p25, List.forall_mem_cons.mpr ⟨lw_p26, List.forall_mem_cons.mpr ⟨lw_p27, List.forall_mem_cons.mpr ⟨lw_p28, List.forall_mem_cons.mpr ⟨lw_p29, List.forall_mem_cons.mpr ⟨lw_p30, List.forall_mem_cons.mpr ⟨lw_p31, fun _ h => absurd h List.not_mem_nil⟩⟩⟩⟩⟩⟩⟩⟩⟩⟩⟩⟩⟩⟩⟩⟩
theorem lw_p32 : lw_okq (⟨"MountSpaces$PathText", "writeByte", "(I)V"⟩, 5) := ⟨⟨by decide +kernel, by decide +kernel⟩, List.mem_of_getElem? (i := 291) (by decide +kernel), List.mem_of_getElem? (i := 1017) (by decide +kernel), List.mem_of_getElem? (i := 1018) (by decide +kernel)⟩
theorem lw_p33 : lw_okq (⟨"MountSpaces$PathText", "writeName", "(I)V"⟩, 5) := ⟨⟨by decide +kernel, by decide +kernel⟩, List.mem_of_getElem? (i := 291) (by decide +kernel), List.mem_of_getElem? (i := 1021) (by decide +kernel), List.mem_of_getElem? (i := 1022) (by decide +kernel)⟩
theorem lw_p34 : lw_okq (⟨"MountSpaces$Changer", "refusalToMove", "(III)I"⟩, 6) := ⟨⟨by decide +kernel, by decide +kernel⟩, List.mem_of_getElem? (i := 181) (by decide +kernel), List.mem_of_getElem? (i := 1060) (by decide +kernel), List.mem_of_getElem? (i := 1061) (by decide +kernel)⟩
theorem lw_p35 : lw_okq (⟨"MountSpaces$Changer", "isOrIsUnder", "(II)Z"⟩, 6) := ⟨⟨by decide +kernel, by decide +kernel⟩, List.mem_of_getElem? (i := 181) (by decide +kernel), List.mem_of_getElem? (i := 1069) (by decide +kernel), List.mem_of_getElem? (i := 1070) (by decide +kernel)⟩
theorem lw_p36 : lw_okq (⟨"MountSpaces$Mounts", "copyRow", "(II)V"⟩, 15) := ⟨⟨by decide +kernel, by decide +kernel⟩, List.mem_of_getElem? (i := 72) (by decide +kernel), List.mem_of_getElem? (i := 1088) (by decide +kernel), List.mem_of_getElem? (i := 1089) (by decide +kernel)⟩
theorem lw_p37 : lw_okq (⟨"MountSpaces$Changer", "removeFrom", "(IIII)I"⟩, 6) := ⟨⟨by decide +kernel, by decide +kernel⟩, List.mem_of_getElem? (i := 181) (by decide +kernel), List.mem_of_getElem? (i := 1092) (by decide +kernel), List.mem_of_getElem? (i := 1093) (by decide +kernel)⟩
theorem lw_p38 : lw_okq (⟨"MountSpaces$Changer", "duplicateMount", "(IIZ)V"⟩, 6) := ⟨⟨by decide +kernel, by decide +kernel⟩, List.mem_of_getElem? (i := 181) (by decide +kernel), List.mem_of_getElem? (i := 1116) (by decide +kernel), List.mem_of_getElem? (i := 1117) (by decide +kernel)⟩
theorem lw_p39 : lw_okq (⟨"MountSpacesModel", "put", "(II)V"⟩, 29) := ⟨⟨by decide +kernel, by decide +kernel⟩, List.mem_of_getElem? (i := 1148) (by decide +kernel), List.mem_of_getElem? (i := 1154) (by decide +kernel), List.mem_of_getElem? (i := 1155) (by decide +kernel)⟩
theorem lw_p40 : lw_okq (⟨"MountSpacesModel", "firstDirectory", "(I)V"⟩, 29) := ⟨⟨by decide +kernel, by decide +kernel⟩, List.mem_of_getElem? (i := 1148) (by decide +kernel), List.mem_of_getElem? (i := 1158) (by decide +kernel), List.mem_of_getElem? (i := 1159) (by decide +kernel)⟩
theorem lw_p41 : lw_okq (⟨"MountSpacesModel", "begins", "(I)V"⟩, 29) := ⟨⟨by decide +kernel, by decide +kernel⟩, List.mem_of_getElem? (i := 1148) (by decide +kernel), List.mem_of_getElem? (i := 1168) (by decide +kernel), List.mem_of_getElem? (i := 1169) (by decide +kernel)⟩
theorem lw_p42 : lw_okq (⟨"MountSpacesModel", "makes", "(III)I"⟩, 29) := ⟨⟨by decide +kernel, by decide +kernel⟩, List.mem_of_getElem? (i := 1148) (by decide +kernel), List.mem_of_getElem? (i := 1172) (by decide +kernel), List.mem_of_getElem? (i := 1173) (by decide +kernel)⟩
theorem lw_p43 : lw_okq (⟨"MountSpacesModel", "get", "(I)I"⟩, 29) := ⟨⟨by decide +kernel, by decide +kernel⟩, List.mem_of_getElem? (i := 1148) (by decide +kernel), List.mem_of_getElem? (i := 1176) (by decide +kernel), List.mem_of_getElem? (i := 1177) (by decide +kernel)⟩
theorem lw_p44 : lw_okq (⟨"MountSpacesModel", "add", "(II)V"⟩, 29) := ⟨⟨by decide +kernel, by decide +kernel⟩, List.mem_of_getElem? (i := 1148) (by decide +kernel), List.mem_of_getElem? (i := 1183) (by decide +kernel), List.mem_of_getElem? (i := 1184) (by decide +kernel)⟩
theorem lw_p45 : lw_okq (⟨"MountSpacesModel", "right", "(ZI)Z"⟩, 29) := ⟨⟨by decide +kernel, by decide +kernel⟩, List.mem_of_getElem? (i := 1148) (by decide +kernel), List.mem_of_getElem? (i := 1290) (by decide +kernel), List.mem_of_getElem? (i := 1291) (by decide +kernel)⟩
theorem lw_p46 : lw_okq (⟨"MountSpacesModel", "texts", "()V"⟩, 29) := ⟨⟨by decide +kernel, by decide +kernel⟩, List.mem_of_getElem? (i := 1148) (by decide +kernel), List.mem_of_getElem? (i := 1294) (by decide +kernel), List.mem_of_getElem? (i := 1295) (by decide +kernel)⟩
theorem lw_p47 : lw_okq (⟨"MountSpacesModel", "takes", "(Ljava/lang/String;)Z"⟩, 29) := ⟨⟨by decide +kernel, by decide +kernel⟩, List.mem_of_getElem? (i := 1148) (by decide +kernel), List.mem_of_getElem? (i := 1299) (by decide +kernel), List.mem_of_getElem? (i := 1300) (by decide +kernel)⟩
def lw_privs_3 : List (MethodName × Nat) := [(⟨"MountSpaces$PathText", "writeByte", "(I)V"⟩, 5), (⟨"MountSpaces$PathText", "writeName", "(I)V"⟩, 5), (⟨"MountSpaces$Changer", "refusalToMove", "(III)I"⟩, 6), (⟨"MountSpaces$Changer", "isOrIsUnder", "(II)Z"⟩, 6), (⟨"MountSpaces$Mounts", "copyRow", "(II)V"⟩, 15), (⟨"MountSpaces$Changer", "removeFrom", "(IIII)I"⟩, 6), (⟨"MountSpaces$Changer", "duplicateMount", "(IIZ)V"⟩, 6), (⟨"MountSpacesModel", "put", "(II)V"⟩, 29), (⟨"MountSpacesModel", "firstDirectory", "(I)V"⟩, 29), (⟨"MountSpacesModel", "begins", "(I)V"⟩, 29), (⟨"MountSpacesModel", "makes", "(III)I"⟩, 29), (⟨"MountSpacesModel", "get", "(I)I"⟩, 29), (⟨"MountSpacesModel", "add", "(II)V"⟩, 29), (⟨"MountSpacesModel", "right", "(ZI)Z"⟩, 29), (⟨"MountSpacesModel", "texts", "()V"⟩, 29), (⟨"MountSpacesModel", "takes", "(Ljava/lang/String;)Z"⟩, 29)]
theorem lw_r3 : ∀ q ∈ lw_privs_3, lw_okq q := List.forall_mem_cons.mpr ⟨lw_p32, List.forall_mem_cons.mpr ⟨lw_p33, List.forall_mem_cons.mpr ⟨lw_p34, List.forall_mem_cons.mpr ⟨lw_p35, List.forall_mem_cons.mpr ⟨lw_p36, List.forall_mem_cons.mpr ⟨lw_p37, List.forall_mem_cons.mpr ⟨lw_p38, List.forall_mem_cons.mpr ⟨lw_p39, List.forall_mem_cons.mpr ⟨lw_p40, List.forall_mem_cons.mpr ⟨lw_p41, List.forall_mem_cons.mpr ⟨lw_p42, List.forall_mem_cons.mpr ⟨lw_p43, List.forall_mem_cons.mpr ⟨lw_p44, List.forall_mem_cons.mpr ⟨lw_p45, List.forall_mem_cons.mpr ⟨lw_p46, List.forall_mem_cons.mpr ⟨lw_p47, fun _ h => absurd h List.not_mem_nil⟩⟩⟩⟩⟩⟩⟩⟩⟩⟩⟩⟩⟩⟩⟩⟩
theorem lw_p48 : lw_okq (⟨"MountSpacesModel", "sees", "()I"⟩, 29) := ⟨⟨by decide +kernel, by decide +kernel⟩, List.mem_of_getElem? (i := 1148) (by decide +kernel), List.mem_of_getElem? (i := 1303) (by decide +kernel), List.mem_of_getElem? (i := 1304) (by decide +kernel)⟩
theorem lw_p49 : lw_okq (⟨"MountSpacesModel", "fails", "(II)V"⟩, 29) := ⟨⟨by decide +kernel, by decide +kernel⟩, List.mem_of_getElem? (i := 1148) (by decide +kernel), List.mem_of_getElem? (i := 1312) (by decide +kernel), List.mem_of_getElem? (i := 1313) (by decide +kernel)⟩
theorem lw_p50 : lw_okq (⟨"MountSpacesModel", "wants", "(I)V"⟩, 29) := ⟨⟨by decide +kernel, by decide +kernel⟩, List.mem_of_getElem? (i := 1148) (by decide +kernel), List.mem_of_getElem? (i := 1316) (by decide +kernel), List.mem_of_getElem? (i := 1317) (by decide +kernel)⟩
theorem lw_p51 : lw_okq (⟨"MountSpacesModel", "volume", "()Z"⟩, 29) := ⟨⟨by decide +kernel, by decide +kernel⟩, List.mem_of_getElem? (i := 1148) (by decide +kernel), List.mem_of_getElem? (i := 1320) (by decide +kernel), List.mem_of_getElem? (i := 1321) (by decide +kernel)⟩
theorem lw_p52 : lw_okq (⟨"MountSpacesModel", "name", "()Z"⟩, 29) := ⟨⟨by decide +kernel, by decide +kernel⟩, List.mem_of_getElem? (i := 1148) (by decide +kernel), List.mem_of_getElem? (i := 1325) (by decide +kernel), List.mem_of_getElem? (i := 1326) (by decide +kernel)⟩
theorem lw_p53 : lw_okq (⟨"MountSpacesModel", "volumeNamed", "()I"⟩, 29) := ⟨⟨by decide +kernel, by decide +kernel⟩, List.mem_of_getElem? (i := 1148) (by decide +kernel), List.mem_of_getElem? (i := 1329) (by decide +kernel), List.mem_of_getElem? (i := 1330) (by decide +kernel)⟩
theorem lw_p54 : lw_okq (⟨"MountSpacesModel", "isNameAt", "(I)Z"⟩, 29) := ⟨⟨by decide +kernel, by decide +kernel⟩, List.mem_of_getElem? (i := 1148) (by decide +kernel), List.mem_of_getElem? (i := 1333) (by decide +kernel), List.mem_of_getElem? (i := 1334) (by decide +kernel)⟩
theorem lw_p55 : lw_okq (⟨"MountSpacesModel", "nameInto", "(I)V"⟩, 29) := ⟨⟨by decide +kernel, by decide +kernel⟩, List.mem_of_getElem? (i := 1148) (by decide +kernel), List.mem_of_getElem? (i := 1337) (by decide +kernel), List.mem_of_getElem? (i := 1338) (by decide +kernel)⟩
theorem lw_p56 : lw_okq (⟨"MountSpacesModel", "inside", "(II)V"⟩, 29) := ⟨⟨by decide +kernel, by decide +kernel⟩, List.mem_of_getElem? (i := 1148) (by decide +kernel), List.mem_of_getElem? (i := 1341) (by decide +kernel), List.mem_of_getElem? (i := 1342) (by decide +kernel)⟩
theorem lw_p57 : lw_okq (⟨"MountSpacesModel", "directory", "(II)V"⟩, 29) := ⟨⟨by decide +kernel, by decide +kernel⟩, List.mem_of_getElem? (i := 1148) (by decide +kernel), List.mem_of_getElem? (i := 1345) (by decide +kernel), List.mem_of_getElem? (i := 1346) (by decide +kernel)⟩
theorem lw_p58 : lw_okq (⟨"MountSpacesModel", "directoryNamed", "(II)I"⟩, 29) := ⟨⟨by decide +kernel, by decide +kernel⟩, List.mem_of_getElem? (i := 1148) (by decide +kernel), List.mem_of_getElem? (i := 1349) (by decide +kernel), List.mem_of_getElem? (i := 1350) (by decide +kernel)⟩
theorem lw_p59 : lw_okq (⟨"MountSpacesModel", "dirsOf", "(I)I"⟩, 29) := ⟨⟨by decide +kernel, by decide +kernel⟩, List.mem_of_getElem? (i := 1148) (by decide +kernel), List.mem_of_getElem? (i := 1353) (by decide +kernel), List.mem_of_getElem? (i := 1354) (by decide +kernel)⟩
theorem lw_p60 : lw_okq (⟨"MountSpacesModel", "outerOf", "(II)I"⟩, 29) := ⟨⟨by decide +kernel, by decide +kernel⟩, List.mem_of_getElem? (i := 1148) (by decide +kernel), List.mem_of_getElem? (i := 1357) (by decide +kernel), List.mem_of_getElem? (i := 1358) (by decide +kernel)⟩
theorem lw_p61 : lw_okq (⟨"MountSpacesModel", "knownVolume", "()I"⟩, 29) := ⟨⟨by decide +kernel, by decide +kernel⟩, List.mem_of_getElem? (i := 1148) (by decide +kernel), List.mem_of_getElem? (i := 1362) (by decide +kernel), List.mem_of_getElem? (i := 1363) (by decide +kernel)⟩
theorem lw_p62 : lw_okq (⟨"MountSpacesModel", "statement", "()V"⟩, 29) := ⟨⟨by decide +kernel, by decide +kernel⟩, List.mem_of_getElem? (i := 1148) (by decide +kernel), List.mem_of_getElem? (i := 1366) (by decide +kernel), List.mem_of_getElem? (i := 1367) (by decide +kernel)⟩
theorem lw_p63 : lw_okq (⟨"MountSpacesModel", "path0", "(I)V"⟩, 29) := ⟨⟨by decide +kernel, by decide +kernel⟩, List.mem_of_getElem? (i := 1148) (by decide +kernel), List.mem_of_getElem? (i := 1371) (by decide +kernel), List.mem_of_getElem? (i := 1372) (by decide +kernel)⟩
def lw_privs_4 : List (MethodName × Nat) := [(⟨"MountSpacesModel", "sees", "()I"⟩, 29), (⟨"MountSpacesModel", "fails", "(II)V"⟩, 29), (⟨"MountSpacesModel", "wants", "(I)V"⟩, 29), (⟨"MountSpacesModel", "volume", "()Z"⟩, 29), (⟨"MountSpacesModel", "name", "()Z"⟩, 29), (⟨"MountSpacesModel", "volumeNamed", "()I"⟩, 29), (⟨"MountSpacesModel", "isNameAt", "(I)Z"⟩, 29), (⟨"MountSpacesModel", "nameInto", "(I)V"⟩, 29), (⟨"MountSpacesModel", "inside", "(II)V"⟩, 29), (⟨"MountSpacesModel", "directory", "(II)V"⟩, 29), (⟨"MountSpacesModel", "directoryNamed", "(II)I"⟩, 29), (⟨"MountSpacesModel", "dirsOf", "(I)I"⟩, 29), (⟨"MountSpacesModel", "outerOf", "(II)I"⟩, 29), (⟨"MountSpacesModel", "knownVolume", "()I"⟩, 29), (⟨"MountSpacesModel", "statement", "()V"⟩, 29), (⟨"MountSpacesModel", "path0", "(I)V"⟩, 29)]
theorem lw_r4 : ∀ q ∈ lw_privs_4, lw_okq q := List.forall_mem_cons.mpr ⟨lw_p48, List.forall_mem_cons.mpr ⟨lw_p49, List.forall_mem_cons.mpr ⟨lw_p50, List.forall_mem_cons.mpr ⟨lw_p51, List.forall_mem_cons.mpr ⟨lw_p52, List.forall_mem_cons.mpr ⟨lw_p53, List.forall_mem_cons.mpr ⟨lw_p54, List.forall_mem_cons.mpr ⟨lw_p55, List.forall_mem_cons.mpr ⟨lw_p56, List.forall_mem_cons.mpr ⟨lw_p57, List.forall_mem_cons.mpr ⟨lw_p58, List.forall_mem_cons.mpr ⟨lw_p59, List.forall_mem_cons.mpr ⟨lw_p60, List.forall_mem_cons.mpr ⟨lw_p61, List.forall_mem_cons.mpr ⟨lw_p62, List.forall_mem_cons.mpr ⟨lw_p63, fun _ h => absurd h List.not_mem_nil⟩⟩⟩⟩⟩⟩⟩⟩⟩⟩⟩⟩⟩⟩⟩⟩
theorem lw_p64 : lw_okq (⟨"MountSpacesModel", "fromRoot", "(I)V"⟩, 29) := ⟨⟨by decide +kernel, by decide +kernel⟩, List.mem_of_getElem? (i := 1148) (by decide +kernel), List.mem_of_getElem? (i := 1375) (by decide +kernel), List.mem_of_getElem? (i := 1376) (by decide +kernel)⟩
theorem lw_p65 : lw_okq (⟨"MountSpacesModel", "of", "(II)I"⟩, 29) := ⟨⟨by decide +kernel, by decide +kernel⟩, List.mem_of_getElem? (i := 1148) (by decide +kernel), List.mem_of_getElem? (i := 1379) (by decide +kernel), List.mem_of_getElem? (i := 1380) (by decide +kernel)⟩
theorem lw_p66 : lw_okq (⟨"MountSpacesModel", "down", "()V"⟩, 29) := ⟨⟨by decide +kernel, by decide +kernel⟩, List.mem_of_getElem? (i := 1148) (by decide +kernel), List.mem_of_getElem? (i := 1383) (by decide +kernel), List.mem_of_getElem? (i := 1384) (by decide +kernel)⟩
theorem lw_p67 : lw_okq (⟨"MountSpacesModel", "onPlace", "(II)I"⟩, 29) := ⟨⟨by decide +kernel, by decide +kernel⟩, List.mem_of_getElem? (i := 1148) (by decide +kernel), List.mem_of_getElem? (i := 1387) (by decide +kernel), List.mem_of_getElem? (i := 1388) (by decide +kernel)⟩
theorem lw_p68 : lw_okq (⟨"MountSpacesModel", "goesTo", "()V"⟩, 29) := ⟨⟨by decide +kernel, by decide +kernel⟩, List.mem_of_getElem? (i := 1148) (by decide +kernel), List.mem_of_getElem? (i := 1391) (by decide +kernel), List.mem_of_getElem? (i := 1392) (by decide +kernel)⟩
theorem lw_p69 : lw_okq (⟨"MountSpacesModel", "ends", "()I"⟩, 29) := ⟨⟨by decide +kernel, by decide +kernel⟩, List.mem_of_getElem? (i := 1148) (by decide +kernel), List.mem_of_getElem? (i := 1395) (by decide +kernel), List.mem_of_getElem? (i := 1396) (by decide +kernel)⟩
theorem lw_p70 : lw_okq (⟨"MountSpacesModel", "mounts", "(III)I"⟩, 29) := ⟨⟨by decide +kernel, by decide +kernel⟩, List.mem_of_getElem? (i := 1148) (by decide +kernel), List.mem_of_getElem? (i := 1399) (by decide +kernel), List.mem_of_getElem? (i := 1400) (by decide +kernel)⟩
theorem lw_p71 : lw_okq (⟨"MountSpacesModel", "findFollowers", "(I)I"⟩, 29) := ⟨⟨by decide +kernel, by decide +kernel⟩, List.mem_of_getElem? (i := 1148) (by decide +kernel), List.mem_of_getElem? (i := 1403) (by decide +kernel), List.mem_of_getElem? (i := 1404) (by decide +kernel)⟩
theorem lw_p72 : lw_okq (⟨"MountSpacesModel", "isFollowing", "(I)Z"⟩, 29) := ⟨⟨by decide +kernel, by decide +kernel⟩, List.mem_of_getElem? (i := 1148) (by decide +kernel), List.mem_of_getElem? (i := 1407) (by decide +kernel), List.mem_of_getElem? (i := 1408) (by decide +kernel)⟩
theorem lw_p73 : lw_okq (⟨"MountSpacesModel", "copiesAt", "(II)I"⟩, 29) := ⟨⟨by decide +kernel, by decide +kernel⟩, List.mem_of_getElem? (i := 1148) (by decide +kernel), List.mem_of_getElem? (i := 1411) (by decide +kernel), List.mem_of_getElem? (i := 1412) (by decide +kernel)⟩
theorem lw_p74 : lw_okq (⟨"MountSpacesModel", "isCopied", "(III)Z"⟩, 29) := ⟨⟨by decide +kernel, by decide +kernel⟩, List.mem_of_getElem? (i := 1148) (by decide +kernel), List.mem_of_getElem? (i := 1415) (by decide +kernel), List.mem_of_getElem? (i := 1416) (by decide +kernel)⟩
theorem lw_p75 : lw_okq (⟨"MountSpacesModel", "hasDirectory", "(II)Z"⟩, 29) := ⟨⟨by decide +kernel, by decide +kernel⟩, List.mem_of_getElem? (i := 1148) (by decide +kernel), List.mem_of_getElem? (i := 1419) (by decide +kernel), List.mem_of_getElem? (i := 1420) (by decide +kernel)⟩
theorem lw_p76 : lw_okq (⟨"MountSpacesModel", "isBelow", "(III)Z"⟩, 29) := ⟨⟨by decide +kernel, by decide +kernel⟩, List.mem_of_getElem? (i := 1148) (by decide +kernel), List.mem_of_getElem? (i := 1423) (by decide +kernel), List.mem_of_getElem? (i := 1424) (by decide +kernel)⟩
theorem lw_p77 : lw_okq (⟨"MountSpacesModel", "stands", "(III)V"⟩, 29) := ⟨⟨by decide +kernel, by decide +kernel⟩, List.mem_of_getElem? (i := 1148) (by decide +kernel), List.mem_of_getElem? (i := 1427) (by decide +kernel), List.mem_of_getElem? (i := 1428) (by decide +kernel)⟩
theorem lw_p78 : lw_okq (⟨"MountSpacesModel", "spreads", "(III)I"⟩, 29) := ⟨⟨by decide +kernel, by decide +kernel⟩, List.mem_of_getElem? (i := 1148) (by decide +kernel), List.mem_of_getElem? (i := 1431) (by decide +kernel), List.mem_of_getElem? (i := 1432) (by decide +kernel)⟩
theorem lw_p79 : lw_okq (⟨"MountSpacesModel", "newGroup", "()I"⟩, 29) := ⟨⟨by decide +kernel, by decide +kernel⟩, List.mem_of_getElem? (i := 1148) (by decide +kernel), List.mem_of_getElem? (i := 1435) (by decide +kernel), List.mem_of_getElem? (i := 1436) (by decide +kernel)⟩
def lw_privs_5 : List (MethodName × Nat) := [(⟨"MountSpacesModel", "fromRoot", "(I)V"⟩, 29), (⟨"MountSpacesModel", "of", "(II)I"⟩, 29), (⟨"MountSpacesModel", "down", "()V"⟩, 29), (⟨"MountSpacesModel", "onPlace", "(II)I"⟩, 29), (⟨"MountSpacesModel", "goesTo", "()V"⟩, 29), (⟨"MountSpacesModel", "ends", "()I"⟩, 29), (⟨"MountSpacesModel", "mounts", "(III)I"⟩, 29), (⟨"MountSpacesModel", "findFollowers", "(I)I"⟩, 29), (⟨"MountSpacesModel", "isFollowing", "(I)Z"⟩, 29), (⟨"MountSpacesModel", "copiesAt", "(II)I"⟩, 29), (⟨"MountSpacesModel", "isCopied", "(III)Z"⟩, 29), (⟨"MountSpacesModel", "hasDirectory", "(II)Z"⟩, 29), (⟨"MountSpacesModel", "isBelow", "(III)Z"⟩, 29), (⟨"MountSpacesModel", "stands", "(III)V"⟩, 29), (⟨"MountSpacesModel", "spreads", "(III)I"⟩, 29), (⟨"MountSpacesModel", "newGroup", "()I"⟩, 29)]
theorem lw_r5 : ∀ q ∈ lw_privs_5, lw_okq q := List.forall_mem_cons.mpr ⟨lw_p64, List.forall_mem_cons.mpr ⟨lw_p65, List.forall_mem_cons.mpr ⟨lw_p66, List.forall_mem_cons.mpr ⟨lw_p67, List.forall_mem_cons.mpr ⟨lw_p68, List.forall_mem_cons.mpr ⟨lw_p69, List.forall_mem_cons.mpr ⟨lw_p70, List.forall_mem_cons.mpr ⟨lw_p71, List.forall_mem_cons.mpr ⟨lw_p72, List.forall_mem_cons.mpr ⟨lw_p73, List.forall_mem_cons.mpr ⟨lw_p74, List.forall_mem_cons.mpr ⟨lw_p75, List.forall_mem_cons.mpr ⟨lw_p76, List.forall_mem_cons.mpr ⟨lw_p77, List.forall_mem_cons.mpr ⟨lw_p78, List.forall_mem_cons.mpr ⟨lw_p79, fun _ h => absurd h List.not_mem_nil⟩⟩⟩⟩⟩⟩⟩⟩⟩⟩⟩⟩⟩⟩⟩⟩
theorem lw_p80 : lw_okq (⟨"MountSpacesModel", "laysGroups", "(II)V"⟩, 29) := ⟨⟨by decide +kernel, by decide +kernel⟩, List.mem_of_getElem? (i := 1148) (by decide +kernel), List.mem_of_getElem? (i := 1439) (by decide +kernel), List.mem_of_getElem? (i := 1440) (by decide +kernel)⟩
theorem lw_p81 : lw_okq (⟨"MountSpacesModel", "nextOld", "(I)I"⟩, 29) := ⟨⟨by decide +kernel, by decide +kernel⟩, List.mem_of_getElem? (i := 1148) (by decide +kernel), List.mem_of_getElem? (i := 1443) (by decide +kernel), List.mem_of_getElem? (i := 1444) (by decide +kernel)⟩
theorem lw_p82 : lw_okq (⟨"MountSpacesModel", "copyOn", "(IIII)V"⟩, 29) := ⟨⟨by decide +kernel, by decide +kernel⟩, List.mem_of_getElem? (i := 1148) (by decide +kernel), List.mem_of_getElem? (i := 1447) (by decide +kernel), List.mem_of_getElem? (i := 1448) (by decide +kernel)⟩
theorem lw_p83 : lw_okq (⟨"MountSpacesModel", "freshOf", "(I)I"⟩, 29) := ⟨⟨by decide +kernel, by decide +kernel⟩, List.mem_of_getElem? (i := 1148) (by decide +kernel), List.mem_of_getElem? (i := 1451) (by decide +kernel), List.mem_of_getElem? (i := 1452) (by decide +kernel)⟩
theorem lw_p84 : lw_okq (⟨"MountSpacesModel", "binds", "(IIII)I"⟩, 29) := ⟨⟨by decide +kernel, by decide +kernel⟩, List.mem_of_getElem? (i := 1148) (by decide +kernel), List.mem_of_getElem? (i := 1456) (by decide +kernel), List.mem_of_getElem? (i := 1457) (by decide +kernel)⟩
theorem lw_p85 : lw_okq (⟨"MountSpacesModel", "makesKind", "(II)V"⟩, 29) := ⟨⟨by decide +kernel, by decide +kernel⟩, List.mem_of_getElem? (i := 1148) (by decide +kernel), List.mem_of_getElem? (i := 1465) (by decide +kernel), List.mem_of_getElem? (i := 1466) (by decide +kernel)⟩
theorem lw_p86 : lw_okq (⟨"MountSpacesModel", "groupMany", "(I)I"⟩, 29) := ⟨⟨by decide +kernel, by decide +kernel⟩, List.mem_of_getElem? (i := 1148) (by decide +kernel), List.mem_of_getElem? (i := 1469) (by decide +kernel), List.mem_of_getElem? (i := 1470) (by decide +kernel)⟩
theorem lw_p87 : lw_okq (⟨"MountSpacesModel", "change", "()V"⟩, 29) := ⟨⟨by decide +kernel, by decide +kernel⟩, List.mem_of_getElem? (i := 1148) (by decide +kernel), List.mem_of_getElem? (i := 1473) (by decide +kernel), List.mem_of_getElem? (i := 1474) (by decide +kernel)⟩
theorem lw_p88 : lw_okq (⟨"MountSpacesModel", "copies", "(II)V"⟩, 29) := ⟨⟨by decide +kernel, by decide +kernel⟩, List.mem_of_getElem? (i := 1148) (by decide +kernel), List.mem_of_getElem? (i := 1477) (by decide +kernel), List.mem_of_getElem? (i := 1478) (by decide +kernel)⟩
theorem lw_p89 : lw_okq (⟨"MountSpacesModel", "counted", "(I)I"⟩, 29) := ⟨⟨by decide +kernel, by decide +kernel⟩, List.mem_of_getElem? (i := 1148) (by decide +kernel), List.mem_of_getElem? (i := 1490) (by decide +kernel), List.mem_of_getElem? (i := 1491) (by decide +kernel)⟩
theorem lw_p90 : lw_okq (⟨"MountSpacesModel", "countOf", "(I)I"⟩, 29) := ⟨⟨by decide +kernel, by decide +kernel⟩, List.mem_of_getElem? (i := 1148) (by decide +kernel), List.mem_of_getElem? (i := 1494) (by decide +kernel), List.mem_of_getElem? (i := 1495) (by decide +kernel)⟩
theorem lw_p91 : lw_okq (⟨"MountSpacesModel", "noVolume", "(II)Z"⟩, 29) := ⟨⟨by decide +kernel, by decide +kernel⟩, List.mem_of_getElem? (i := 1148) (by decide +kernel), List.mem_of_getElem? (i := 1502) (by decide +kernel), List.mem_of_getElem? (i := 1503) (by decide +kernel)⟩
theorem lw_p92 : lw_okq (⟨"MountSpacesModel", "known", "(I)I"⟩, 29) := ⟨⟨by decide +kernel, by decide +kernel⟩, List.mem_of_getElem? (i := 1148) (by decide +kernel), List.mem_of_getElem? (i := 1514) (by decide +kernel), List.mem_of_getElem? (i := 1515) (by decide +kernel)⟩
theorem lw_p93 : lw_okq (⟨"MountSpacesModel", "find", "(I)I"⟩, 29) := ⟨⟨by decide +kernel, by decide +kernel⟩, List.mem_of_getElem? (i := 1148) (by decide +kernel), List.mem_of_getElem? (i := 1518) (by decide +kernel), List.mem_of_getElem? (i := 1519) (by decide +kernel)⟩
theorem lw_p94 : lw_okq (⟨"MountSpacesModel", "noPlace", "(II)Z"⟩, 29) := ⟨⟨by decide +kernel, by decide +kernel⟩, List.mem_of_getElem? (i := 1148) (by decide +kernel), List.mem_of_getElem? (i := 1530) (by decide +kernel), List.mem_of_getElem? (i := 1531) (by decide +kernel)⟩
theorem lw_p95 : lw_okq (⟨"MountSpacesModel", "look0", "(I)I"⟩, 29) := ⟨⟨by decide +kernel, by decide +kernel⟩, List.mem_of_getElem? (i := 1148) (by decide +kernel), List.mem_of_getElem? (i := 1542) (by decide +kernel), List.mem_of_getElem? (i := 1543) (by decide +kernel)⟩
def lw_privs_6 : List (MethodName × Nat) := [(⟨"MountSpacesModel", "laysGroups", "(II)V"⟩, 29), (⟨"MountSpacesModel", "nextOld", "(I)I"⟩, 29), (⟨"MountSpacesModel", "copyOn", "(IIII)V"⟩, 29), (⟨"MountSpacesModel", "freshOf", "(I)I"⟩, 29), (⟨"MountSpacesModel", "binds", "(IIII)I"⟩, 29), (⟨"MountSpacesModel", "makesKind", "(II)V"⟩, 29), (⟨"MountSpacesModel", "groupMany", "(I)I"⟩, 29), (⟨"MountSpacesModel", "change", "()V"⟩, 29), (⟨"MountSpacesModel", "copies", "(II)V"⟩, 29), (⟨"MountSpacesModel", "counted", "(I)I"⟩, 29), (⟨"MountSpacesModel", "countOf", "(I)I"⟩, 29), (⟨"MountSpacesModel", "noVolume", "(II)Z"⟩, 29), (⟨"MountSpacesModel", "known", "(I)I"⟩, 29), (⟨"MountSpacesModel", "find", "(I)I"⟩, 29), (⟨"MountSpacesModel", "noPlace", "(II)Z"⟩, 29), (⟨"MountSpacesModel", "look0", "(I)I"⟩, 29)]
theorem lw_r6 : ∀ q ∈ lw_privs_6, lw_okq q := List.forall_mem_cons.mpr ⟨lw_p80, List.forall_mem_cons.mpr ⟨lw_p81, List.forall_mem_cons.mpr ⟨lw_p82, List.forall_mem_cons.mpr ⟨lw_p83, List.forall_mem_cons.mpr ⟨lw_p84, List.forall_mem_cons.mpr ⟨lw_p85, List.forall_mem_cons.mpr ⟨lw_p86, List.forall_mem_cons.mpr ⟨lw_p87, List.forall_mem_cons.mpr ⟨lw_p88, List.forall_mem_cons.mpr ⟨lw_p89, List.forall_mem_cons.mpr ⟨lw_p90, List.forall_mem_cons.mpr ⟨lw_p91, List.forall_mem_cons.mpr ⟨lw_p92, List.forall_mem_cons.mpr ⟨lw_p93, List.forall_mem_cons.mpr ⟨lw_p94, List.forall_mem_cons.mpr ⟨lw_p95, fun _ h => absurd h List.not_mem_nil⟩⟩⟩⟩⟩⟩⟩⟩⟩⟩⟩⟩⟩⟩⟩⟩
theorem lw_p96 : lw_okq (⟨"MountSpacesModel", "meets", "(II)Z"⟩, 29) := ⟨⟨by decide +kernel, by decide +kernel⟩, List.mem_of_getElem? (i := 1148) (by decide +kernel), List.mem_of_getElem? (i := 1546) (by decide +kernel), List.mem_of_getElem? (i := 1547) (by decide +kernel)⟩
theorem lw_p97 : lw_okq (⟨"MountSpacesModel", "meetsInside", "(II)Z"⟩, 29) := ⟨⟨by decide +kernel, by decide +kernel⟩, List.mem_of_getElem? (i := 1148) (by decide +kernel), List.mem_of_getElem? (i := 1550) (by decide +kernel), List.mem_of_getElem? (i := 1551) (by decide +kernel)⟩
theorem lw_p98 : lw_okq (⟨"MountSpacesModel", "writesDown", "(II)V"⟩, 29) := ⟨⟨by decide +kernel, by decide +kernel⟩, List.mem_of_getElem? (i := 1148) (by decide +kernel), List.mem_of_getElem? (i := 1570) (by decide +kernel), List.mem_of_getElem? (i := 1571) (by decide +kernel)⟩
theorem lw_p99 : lw_okq (⟨"MountSpacesModel", "writesName", "(II)V"⟩, 29) := ⟨⟨by decide +kernel, by decide +kernel⟩, List.mem_of_getElem? (i := 1148) (by decide +kernel), List.mem_of_getElem? (i := 1574) (by decide +kernel), List.mem_of_getElem? (i := 1575) (by decide +kernel)⟩
theorem lw_p100 : lw_okq (⟨"MountSpacesModel", "moves", "(III)I"⟩, 29) := ⟨⟨by decide +kernel, by decide +kernel⟩, List.mem_of_getElem? (i := 1148) (by decide +kernel), List.mem_of_getElem? (i := 1594) (by decide +kernel), List.mem_of_getElem? (i := 1595) (by decide +kernel)⟩
theorem lw_p101 : lw_okq (⟨"MountSpacesModel", "refusal", "(III)I"⟩, 29) := ⟨⟨by decide +kernel, by decide +kernel⟩, List.mem_of_getElem? (i := 1148) (by decide +kernel), List.mem_of_getElem? (i := 1598) (by decide +kernel), List.mem_of_getElem? (i := 1599) (by decide +kernel)⟩
theorem lw_p102 : lw_okq (⟨"MountSpacesModel", "isBusy", "(I)Z"⟩, 29) := ⟨⟨by decide +kernel, by decide +kernel⟩, List.mem_of_getElem? (i := 1148) (by decide +kernel), List.mem_of_getElem? (i := 1602) (by decide +kernel), List.mem_of_getElem? (i := 1603) (by decide +kernel)⟩
theorem lw_p103 : lw_okq (⟨"MountSpacesModel", "isUnder", "(II)Z"⟩, 29) := ⟨⟨by decide +kernel, by decide +kernel⟩, List.mem_of_getElem? (i := 1148) (by decide +kernel), List.mem_of_getElem? (i := 1606) (by decide +kernel), List.mem_of_getElem? (i := 1607) (by decide +kernel)⟩
theorem lw_p104 : lw_okq (⟨"MountSpacesModel", "unmounts", "(I)I"⟩, 29) := ⟨⟨by decide +kernel, by decide +kernel⟩, List.mem_of_getElem? (i := 1148) (by decide +kernel), List.mem_of_getElem? (i := 1614) (by decide +kernel), List.mem_of_getElem? (i := 1615) (by decide +kernel)⟩
theorem lw_p105 : lw_okq (⟨"MountSpacesModel", "remove", "(I)V"⟩, 29) := ⟨⟨by decide +kernel, by decide +kernel⟩, List.mem_of_getElem? (i := 1148) (by decide +kernel), List.mem_of_getElem? (i := 1618) (by decide +kernel), List.mem_of_getElem? (i := 1619) (by decide +kernel)⟩
theorem lw_p106 : lw_okq (⟨"MountSpacesModel", "isRemoved", "(III)Z"⟩, 29) := ⟨⟨by decide +kernel, by decide +kernel⟩, List.mem_of_getElem? (i := 1148) (by decide +kernel), List.mem_of_getElem? (i := 1622) (by decide +kernel), List.mem_of_getElem? (i := 1623) (by decide +kernel)⟩
theorem lw_p107 : lw_okq (⟨"MountSpacesModel", "copiesSpace", "(IZ)I"⟩, 29) := ⟨⟨by decide +kernel, by decide +kernel⟩, List.mem_of_getElem? (i := 1148) (by decide +kernel), List.mem_of_getElem? (i := 1635) (by decide +kernel), List.mem_of_getElem? (i := 1636) (by decide +kernel)⟩
theorem lw_p108 : lw_okq (⟨"MountSpacesModel", "countIn", "(I)I"⟩, 29) := ⟨⟨by decide +kernel, by decide +kernel⟩, List.mem_of_getElem? (i := 1148) (by decide +kernel), List.mem_of_getElem? (i := 1639) (by decide +kernel), List.mem_of_getElem? (i := 1640) (by decide +kernel)⟩
theorem lw_p109 : lw_okq (⟨"MountSpacesModel", "copyOf", "(IIZ)V"⟩, 29) := ⟨⟨by decide +kernel, by decide +kernel⟩, List.mem_of_getElem? (i := 1148) (by decide +kernel), List.mem_of_getElem? (i := 1643) (by decide +kernel), List.mem_of_getElem? (i := 1644) (by decide +kernel)⟩
theorem lw_p110 : lw_okq (⟨"MountSpacesModel", "adds", "(J)V"⟩, 29) := ⟨⟨by decide +kernel, by decide +kernel⟩, List.mem_of_getElem? (i := 1148) (by decide +kernel), List.mem_of_getElem? (i := 1659) (by decide +kernel), List.mem_of_getElem? (i := 1660) (by decide +kernel)⟩
def lw_privs_7 : List (MethodName × Nat) := [(⟨"MountSpacesModel", "meets", "(II)Z"⟩, 29), (⟨"MountSpacesModel", "meetsInside", "(II)Z"⟩, 29), (⟨"MountSpacesModel", "writesDown", "(II)V"⟩, 29), (⟨"MountSpacesModel", "writesName", "(II)V"⟩, 29), (⟨"MountSpacesModel", "moves", "(III)I"⟩, 29), (⟨"MountSpacesModel", "refusal", "(III)I"⟩, 29), (⟨"MountSpacesModel", "isBusy", "(I)Z"⟩, 29), (⟨"MountSpacesModel", "isUnder", "(II)Z"⟩, 29), (⟨"MountSpacesModel", "unmounts", "(I)I"⟩, 29), (⟨"MountSpacesModel", "remove", "(I)V"⟩, 29), (⟨"MountSpacesModel", "isRemoved", "(III)Z"⟩, 29), (⟨"MountSpacesModel", "copiesSpace", "(IZ)I"⟩, 29), (⟨"MountSpacesModel", "countIn", "(I)I"⟩, 29), (⟨"MountSpacesModel", "copyOf", "(IIZ)V"⟩, 29), (⟨"MountSpacesModel", "adds", "(J)V"⟩, 29)]
theorem lw_r7 : ∀ q ∈ lw_privs_7, lw_okq q := List.forall_mem_cons.mpr ⟨lw_p96, List.forall_mem_cons.mpr ⟨lw_p97, List.forall_mem_cons.mpr ⟨lw_p98, List.forall_mem_cons.mpr ⟨lw_p99, List.forall_mem_cons.mpr ⟨lw_p100, List.forall_mem_cons.mpr ⟨lw_p101, List.forall_mem_cons.mpr ⟨lw_p102, List.forall_mem_cons.mpr ⟨lw_p103, List.forall_mem_cons.mpr ⟨lw_p104, List.forall_mem_cons.mpr ⟨lw_p105, List.forall_mem_cons.mpr ⟨lw_p106, List.forall_mem_cons.mpr ⟨lw_p107, List.forall_mem_cons.mpr ⟨lw_p108, List.forall_mem_cons.mpr ⟨lw_p109, List.forall_mem_cons.mpr ⟨lw_p110, fun _ h => absurd h List.not_mem_nil⟩⟩⟩⟩⟩⟩⟩⟩⟩⟩⟩⟩⟩⟩⟩
def lw_privs : List (MethodName × Nat) := lw_privs_1 ++ (lw_privs_2 ++ (lw_privs_3 ++ (lw_privs_4 ++ (lw_privs_5 ++ (lw_privs_6 ++ (lw_privs_7))))))
def lw_tbl : List Cond := k2_sels lw_privs ++ tables_1
theorem lw_privs_ok : ∀ q ∈ lw_privs, lw_okq q := by
  show ∀ q ∈ lw_privs_1 ++ (lw_privs_2 ++ (lw_privs_3 ++ (lw_privs_4 ++ (lw_privs_5 ++ (lw_privs_6 ++ (lw_privs_7)))))), lw_okq q
  exact List.forall_mem_append.mpr ⟨lw_r1, List.forall_mem_append.mpr ⟨lw_r2, List.forall_mem_append.mpr ⟨lw_r3, List.forall_mem_append.mpr ⟨lw_r4, List.forall_mem_append.mpr ⟨lw_r5, List.forall_mem_append.mpr ⟨lw_r6, lw_r7⟩⟩⟩⟩⟩⟩
-- ===== end of PART A; then your names; then what follows =====
end
section
/-! ===== BEGIN words of one list among another's, by their places ===== -/
theorem goodIn_r {big : List Cond} (ws : List Cond) (ps : List Nat) (hp : ws = ps.filterMap (fun i => big[i]?)) (h : ws.all goodWord = true) : GoodIn big ws := by
  intro w hw
  have h1 := List.all_eq_true.mp h w hw
  rw [hp] at hw
  obtain ⟨i, -, hi⟩ := List.mem_filterMap.mp hw
  have hm : w ∈ big := by first | exact List.mem_of_getElem? hi | exact List.getElem?_mem hi
  exact ⟨hm, good_of_word h1⟩
theorem goodIn_app {big a b : List Cond} (ha : GoodIn big a) (hb : GoodIn big b) : GoodIn big (a ++ b) := fun w h => (List.mem_append.mp h).elim (ha w) (hb w)
theorem goodIn_ca {big a b : List Cond} {c : Cond} (ha : GoodIn big (c :: a)) (hb : GoodIn big b) : GoodIn big (c :: (a ++ b)) := fun w h => (List.mem_cons.mp h).elim (fun e => ha w (List.mem_cons.mpr (Or.inl e))) (fun h => (List.mem_append.mp h).elim (fun h => ha w (List.mem_cons.mpr (Or.inr h))) (hb w))
theorem goodIn_sub {big ws : List Cond} (hm : ∀ w ∈ ws, w ∈ big) (h : ws.all goodWord = true) : GoodIn big ws := fun w hw => ⟨hm w hw, good_of_word (List.all_eq_true.mp h w hw)⟩
/-! ===== END ===== -/
/-! ===== BEGIN exceptions that leave a method, and their catching by the caller (launches without stack traces) ===== -/
section VXA
/-! The laws vx_back, vx_callV, vx_callS, vx_callSW, vx_throw0, vx_throwS follow proofs of the library, with one case more: JvmDerived/Free/Laws.lean (Back.of_free), Shelf42/LK1.lean (callV, callS), Shelf/KitTraced.lean (throwNew0V, throwNewS). -/
/-- where a method has thrown q: the class by its name, the cell, what was written, the world -/
def vx_T (XC : String → State → State → Prop) (st : State) (q : Addr) (t : State) (mc ms : Nat) (free : Addr → Prop) : Prop :=
  ∃ (E : String) (ce : Cell) (L : List Loc), XC E st t ∧ t.heap[q]? = some ce ∧ ce.vm = .none ∧ st.vm.findClass E = some ce.cls ∧ st.WarmedH t.vm ∧ st.sameButNew ({ t with vm := st.vm } : State) L mc ms ∧ ∀ z ∈ L, free z.base
def vx_Q (Qc : Array Value → State → Outcome → State → Prop) (XC : String → State → State → Prop) (mc ms : Nat) (free : Addr → Prop) : Array Value → State → Outcome → State → Prop := fun a st o t =>
  (Qc a st o t ∧ ∃ L, FrameEnd st o t L mc ms ∧ ∀ q ∈ L, free q.base) ∨ ∃ q, o = .threw q ∧ vx_T XC st q t mc ms free
/-- a callee that returns or throws -/
def vx_Met (l : Launch) (y : MethodName) (ws : List Cond) (rm : Room) (Pc : Array Value → State → Prop) (Qc : Array Value → State → Outcome → State → Prop) (XC : String → State → State → Prop) (mc ms : Nat) (free : Addr → Prop) : Prop :=
  MetFree l y (headSpec ws rm) Pc (fun _ _ _ _ _ => True) (vx_Q Qc XC mc ms free)
def vx_Post (XC : String → State → State → Prop) (mc ms : Nat) (free : Addr → Prop) : Pt → Array Value → Addr → Pt → Prop := fun A a q B =>
  ∃ (g : JFrame) (mk : MethodId) (t : State) (L : List Loc) (E : String) (ce : Cell), B.U.heap = t.heap ∧ B.U.vm = t.vm ∧ XC E (A.U.calling g mk a) t ∧ t.heap[q]? = some ce ∧ ce.vm = .none ∧ A.U.vm.findClass E = some ce.cls ∧ B.locs = A.locs ++ L ∧ (∀ z ∈ L, free z.base) ∧ B.cells = A.cells + mc ∧ B.slots = A.slots + ms
def vx_Back (l : Launch) (R : Room) (p : Program) (e : Env) (below : List Frame) (s : State) (sargs : Array Value) (y : MethodName) (len W9 : Nat)
    (Pre : Pt → Array Value → Prop) (Post : Pt → Array Value → Option Value → Pt → Prop) (PostX : Pt → Array Value → Addr → Pt → Prop) : Prop :=
  ∀ (m : MethodId) (meth : Method) (c : Code) (A : Pt) (g : JFrame) (ig : Instr) (mk : MethodId) (a : Array Value),
    Stand p l e R s m sargs below meth c A.U A.locs A.cells A.slots → g.method = m → g.locals.size = c.maxLocals → decode c.code g.pc = .ok (ig, len) →
    2 * g.monitorRoom + (g.stack.map fun v => v.category).sum ≤ W9 → A.U.methodNamed? y = some mk → Pre A a →
    (∃ (v : Option Value) (B : Pt), Stand p l e R s m sargs below meth c B.U B.locs B.cells B.slots ∧ Post A a v B ∧
      Steps p.tables e below (doInvoke e (A.U.setTop g) [] mk a).1 (B.U.setTop { g with pc := g.pc + len, stack := v.toList ++ g.stack })) ∨
    (∃ (q : Addr) (B : Pt), Stand p l e R s m sargs below meth c B.U B.locs B.cells B.slots ∧ PostX A a q B ∧
      Steps p.tables e below (doInvoke e (A.U.setTop g) [] mk a).1 ((B.U.setTop g).pushFrame (.throwing q)))
section Payer
variable {l : Launch} {R : Room} {p : Program} {e : Env} {below : List Frame} {s : State} {sargs : Array Value} {y : MethodName} {len W9 : Nat}
theorem vx_back {ws : List Cond} {rm : Room} {Pc : Array Value → State → Prop} {Qc : Array Value → State → Outcome → State → Prop} {XC : String → State → State → Prop} {mc ms : Nat} {free : Addr → Prop} {bytes : ByteArray} {maxL : Nat} {ret : Option FieldType}
    (hM : vx_Met l y ws rm Pc Qc XC mc ms free) (hblind : FrameBlind Pc) (hrc : rm.cells = mc) (hrs : rm.slots = ms)
    (hframes : rm.frames + 1 ≤ R.frames) (hlocals : W9 + (maxL + 11) + rm.locals ≤ R.locals)
    (hws : ∀ w ∈ ws, ∀ a' U, s.WarmedH U.vm → w.before a' U = true) (hcode : Cond.code y bytes maxL ret ∈ ws) (hinit : ∀ a' U, s.WarmedH U.vm → (Cond.initialized y.cls).before a' U = true) :
    vx_Back l R p e below s sargs y len W9 (PreOf R mc ms Pc) (PostOf Qc mc ms free) (vx_Post XC mc ms free) := by
  intro m meth c A g ig mk a X hg hsize hdg hW hn hp
  have h1 : (headSpec ws rm).pre.before a A.U = true := atoms_intro fun w hw => hws w hw _ _ X.warmed
  have h2 : (Cond.code y bytes maxL ret).before a A.U = true := hws _ hcode _ _ X.warmed
  have h3 : (Cond.initialized y.cls).before a A.U = true := hinit _ _ X.warmed
  have h4 : A.cells + (headSpec ws rm).room.cells ≤ R.cells := by rw [show (headSpec ws rm).room.cells = mc from hrc]; exact hp.1
  have h5 : A.slots + (headSpec ws rm).room.slots ≤ R.slots := by rw [show (headSpec ws rm).room.slots = ms from hrs]; exact hp.2.1
  have hPc : Pc a (A.U.calling g mk a) := hblind _ _ _ _ hp.2.2
  obtain ⟨U, Ls, c0, s0⟩ := A
  dsimp only [Pt.U, Pt.locs, Pt.cells, Pt.slots] at h1 h2 h3 h4 h5 X hn hPc ⊢
  obtain ⟨methY, cY, hmY, hcY, -, hlY, -, -, -, -⟩ := Cond.code_spec hn h2
  obtain ⟨kY, hkY, -⟩ := className_of_methodNamed hn
  have hinitY : kY.init = .initialized := Cond.initialized_spec (findClass_of_methodNamed hn) hkY h3
  have h : At U g.method c below := by rw [hg]; exact X.here
  have hlocals9 : W9 + (maxL + 11) + (headSpec ws rm).room.locals ≤ R.locals := hlocals
  have happ : (headSpec ws rm).appliesLoose y e.platform (U.calling g mk a) = true :=
    Spec.appliesLoose_calling (g := g) h hdg hn hkY hinitY
      (X.room_calling (g := g) (R' := (headSpec ws rm).room) hsize hmY hcY hframes (by rw [hlY]; omega) h4 h5) h1
  obtain ⟨mid, hmid⟩ := h.above
  have hfr : (U.setTop g).frames = (.java g :: mid) ++ below := by rw [State.frames_setTop' g h.top, hmid]; rfl
  obtain ⟨o, s₂, hsteps, -, hend, hq⟩ := Steps.callFree hM p X.admits X.cas X.clock (acts := []) hfr happ hPc trivial
  have hq' : vx_Q Qc XC mc ms free a (U.calling g mk a) o s₂ := hq
  rw [State.frames_setTop' g h.top] at hend
  obtain ⟨g₀, hg0⟩ := Option.isSome_iff_exists.mp h.top
  obtain ⟨r, hr⟩ := State.topJava?_eq_some.mp hg0
  have hr' : (({ U with heap := s₂.heap, slotsUsed := s₂.slotsUsed } : State).setVm s₂.vm).frames = .java g₀ :: r := hr
  rcases hq' with ⟨hqc, L, hfe, hL⟩ | ⟨q, rfl, E, ce, L, hx, hce, hcv, hcl, hW₂, hsm, hL⟩
  · obtain ⟨⟨v, rfl⟩, hW₂, e2, q2, q3, q4, q5, q6⟩ := id hfe
    have e3 : s₂ = ({ (U.calling g mk a).setFrames s₂.frames with heap := s₂.heap, slotsUsed := s₂.slotsUsed } : State).setVm s₂.vm := by
      have : s₂ = ({ s₂ with vm := (U.calling g mk a).vm } : State).setVm s₂.vm := rfl
      rw [e2] at this
      exact this
    obtain ⟨c₂, i₂, len₂, hc₂, hd₂, hf₂⟩ := hend
    have hW' : U.WarmedH s₂.vm := hW₂
    have hcc : c₂ = c := by
      have h1 : s₂.code? g.method = U.code? g.method := by
        rw [State.code?_eq, State.code?_eq, hW'.alike.method?]
      exact Option.some.inj (hc₂.symm.trans (h1.trans h.code))
    subst hcc
    have hlen : len₂ = len := by rw [hdg] at hd₂; cases hd₂; rfl
    subst hlen
    have hs₂ : s₂ = (({ U with heap := s₂.heap, slotsUsed := s₂.slotsUsed } : State).setVm s₂.vm).setTop { g with pc := g.pc + len₂, stack := v.toList ++ g.stack } := by
      refine e3.trans ?_
      rw [hf₂, State.calling_eq h.top, State.setFrames_setFrames, State.setTop_of_frames _ hr', hr]
      rfl
    have hsame : U.sameButNew ({ U with heap := s₂.heap, slotsUsed := s₂.slotsUsed } : State) L mc ms := by
      refine ⟨?_, q2, q3, q4, q5, q6⟩
      obtain ⟨t, ht, -⟩ := State.frames_cons hr
      show ({ U with heap := s₂.heap, slotsUsed := s₂.slotsUsed } : State) = { U.setFrames U.frames with heap := s₂.heap, slotsUsed := s₂.slotsUsed }
      rw [State.setFrames_self ht]
    subst hg
    refine Or.inl ⟨v, ⟨(({ U with heap := s₂.heap, slotsUsed := s₂.slotsUsed } : State).setVm s₂.vm), Ls ++ L, c0 + mc, s0 + ms⟩,
      ⟨X.admits, X.cas, X.clock, X.frames, X.room, X.hears, X.method, X.code, (X.here.setHeapUsed s₂.heap s₂.slotsUsed).setVm hW'.alike, X.tail, State.WarmedH.trans X.warmed hW', X.limits, X.bytes, X.same.trans (hsame.setVm s.vm)⟩,
      ⟨g, mk, s₂, L, rfl, rfl, hqc, rfl, hL, rfl, rfl⟩, ?_⟩
    show Steps p.tables e below _ ((({ U with heap := s₂.heap, slotsUsed := s₂.slotsUsed } : State).setVm s₂.vm).setTop { g with pc := g.pc + len₂, stack := v.toList ++ g.stack })
    rw [← hs₂]
    exact hsteps
  · obtain ⟨e2, q2, q3, q4, q5, q6⟩ := id hsm
    have e3 : s₂ = ({ (U.calling g mk a).setFrames s₂.frames with heap := s₂.heap, slotsUsed := s₂.slotsUsed } : State).setVm s₂.vm := by
      have : s₂ = ({ s₂ with vm := (U.calling g mk a).vm } : State).setVm s₂.vm := rfl
      rw [e2] at this
      exact this
    have hf₂ : s₂.frames = .throwing q :: .java g :: U.frames.tail := hend
    have hW' : U.WarmedH s₂.vm := hW₂
    have hs₂ : s₂ = ((({ U with heap := s₂.heap, slotsUsed := s₂.slotsUsed } : State).setVm s₂.vm).setTop g).pushFrame (.throwing q) := by
      refine e3.trans ?_
      rw [hf₂, State.calling_eq h.top, State.setFrames_setFrames, State.pushFrame, State.frames_setTop _ hr', State.setTop_of_frames _ hr', State.setFrames_setFrames, hr]
      rfl
    have hsame : U.sameButNew ({ U with heap := s₂.heap, slotsUsed := s₂.slotsUsed } : State) L mc ms := by
      refine ⟨?_, q2, q3, q4, q5, q6⟩
      obtain ⟨t, ht, -⟩ := State.frames_cons hr
      show ({ U with heap := s₂.heap, slotsUsed := s₂.slotsUsed } : State) = { U.setFrames U.frames with heap := s₂.heap, slotsUsed := s₂.slotsUsed }
      rw [State.setFrames_self ht]
    subst hg
    refine Or.inr ⟨q, ⟨(({ U with heap := s₂.heap, slotsUsed := s₂.slotsUsed } : State).setVm s₂.vm), Ls ++ L, c0 + mc, s0 + ms⟩,
      ⟨X.admits, X.cas, X.clock, X.frames, X.room, X.hears, X.method, X.code, (X.here.setHeapUsed s₂.heap s₂.slotsUsed).setVm hW'.alike, X.tail, State.WarmedH.trans X.warmed hW', X.limits, X.bytes, X.same.trans (hsame.setVm s.vm)⟩,
      ⟨g, mk, s₂, L, E, ce, rfl, rfl, hx, hce, hcv, hcl, rfl, hL, rfl, rfl⟩, ?_⟩
    show Steps p.tables e below _ (((({ U with heap := s₂.heap, slotsUsed := s₂.slotsUsed } : State).setVm s₂.vm).setTop g).pushFrame (.throwing q))
    rw [← hs₂]
    exact hsteps
end Payer
section Calls
variable {p : Program} {l : Launch} {e : Env} {R : Room} {s : State} {m : MethodId} {args : Array Value} {below : List Frame} {meth : Method} {c : Code} {T : State} {locs : List Loc} {cells slots : Nat}
theorem vx_callV (X : Stand p l e R s m args below meth c T locs cells slots) (hexec : p.tables.exec = Jvm.exec) {own C : String} {index : Nat} {y : MethodName} {bytes : ByteArray} {maxL : Nat} {ret : Option FieldType}
    (hown : s.vm.findClass own = some m.cls) (hlink : (Cond.methodLink own index y).before args s = true) (hinst : (Cond.instanceMethod y).before args s = true) (hsel : (Cond.selects C y y).before args s = true)
    (hcode : (Cond.code y bytes maxL ret).before args s = true) (hy : y.cls ≠ "java/lang/invoke/MethodHandle" ∧ y.cls ≠ "java/lang/invoke/VarHandle")
    {W9 : Nat} {Pre : Pt → Array Value → Prop} {Post : Pt → Array Value → Option Value → Pt → Prop} {PostX : Pt → Array Value → Addr → Pt → Prop} (hK : vx_Back l R p e below s args y 3 W9 Pre Post PostX)
    {b : Addr} {cellB : Cell} (hcell : T.heap[b]? = some cellB) (hobj : cellB.vm.isStatics = false) (hcls : s.vm.findClass C = some cellB.cls)
    {g : JFrame} (hg : g.method = m) (hsize : g.locals.size = c.maxLocals) {argsL rest : List Value} (hlen : ∀ sig, parseMethodDescriptor y.desc = some sig → argsL.length = sig.parameters.length)
    (hstack : g.stack = argsL.reverse ++ .ref b :: rest) (hW : 2 * g.monitorRoom + (rest.map fun v => v.category).sum ≤ W9) (hdg : decode c.code g.pc = .ok (.invokevirtual index, 3))
    (hpre : ∀ vm₁, s.WarmedH vm₁ → Pre ⟨T.setVm vm₁, locs, cells, slots⟩ (Value.ref b :: argsL).toArray) :
    (∃ (v : Option Value) (vm₁ : Vm) (B : Pt), s.WarmedH vm₁ ∧ Stand p l e R s m args below meth c B.U B.locs B.cells B.slots ∧ Post ⟨T.setVm vm₁, locs, cells, slots⟩ (Value.ref b :: argsL).toArray v B ∧
      ∀ target, Steps p.tables e below (B.U.setTop { g with pc := g.pc + 3, stack := v.toList ++ rest }) target → Steps p.tables e below (T.setTop g) target) ∨
    (∃ (q : Addr) (vm₁ : Vm) (B : Pt), s.WarmedH vm₁ ∧ Stand p l e R s m args below meth c B.U B.locs B.cells B.slots ∧ PostX ⟨T.setVm vm₁, locs, cells, slots⟩ (Value.ref b :: argsL).toArray q B ∧
      Steps p.tables e below (T.setTop g) ((B.U.setTop { g with stack := rest }).pushFrame (.throwing q))) := by
  obtain ⟨mk, methM, hnamed, hmethM, hstM, habM⟩ := Cond.instanceMethod_spec hinst
  obtain ⟨methM', cM, hmethM', -, -, -, -, -, -, hsigM⟩ := Cond.code_spec hnamed hcode
  cases hmethM.symm.trans hmethM'
  obtain ⟨c2, r2, m2, q1, q2, q3, q4, kP, hkP, hkPi⟩ := Cond.selects_spec hsel
  cases hcls.symm.trans q1
  cases (State.methodFound?_of_named hnamed hy).symm.trans q2
  cases hnamed.symm.trans q3
  have hselP : selectMethod e.platform s.vm cellB.cls mk = .method mk := by rw [Launch.admits_selectMethod X.admits]; exact q4
  obtain ⟨vm₁, X₁, hstep₁⟩ := X.invokevirtual hexec hown hlink hnamed hmethM hstM hkP hkPi hy (a := b) (cell := cellB) hcell
    (fun z h => by rw [h] at hobj; cases hobj) hselP hmethM habM hkP hkPi (g := g) hg (argsL := argsL) (rest := rest) (hlen _ hsigM) hstack hdg
  rcases hK m meth c ⟨T.setVm vm₁, locs, cells, slots⟩ { g with stack := rest } (.invokevirtual index) mk (Value.ref b :: argsL).toArray X₁ hg hsize hdg hW (X₁.named hnamed) (hpre vm₁ X₁.warmed) with ⟨v, B, X', hpost, hsteps⟩ | ⟨q, B, X', hpost, hsteps⟩
  · exact Or.inl ⟨v, vm₁, B, X₁.warmed, X', hpost, fun target h => hstep₁ _ fun acts => by rw [doInvoke_state]; exact hsteps.trans h⟩
  · exact Or.inr ⟨q, vm₁, B, X₁.warmed, X', hpost, hstep₁ _ fun acts => by rw [doInvoke_state]; exact hsteps⟩
theorem vx_callS (X : Stand p l e R s m args below meth c T locs cells slots) (hexec : p.tables.exec = Jvm.exec) {own : String} {index : Nat} {y : MethodName} {bytes : ByteArray} {maxL : Nat} {ret : Option FieldType}
    (hown : s.vm.findClass own = some m.cls) (hlink : (Cond.methodLink own index y).before args s = true) (hstat : (Cond.static y).before args s = true) (hinit : (Cond.initialized y.cls).before args s = true)
    (hcode : (Cond.code y bytes maxL ret).before args s = true) (hy : y.cls ≠ "java/lang/invoke/MethodHandle" ∧ y.cls ≠ "java/lang/invoke/VarHandle")
    {W9 : Nat} {Pre : Pt → Array Value → Prop} {Post : Pt → Array Value → Option Value → Pt → Prop} {PostX : Pt → Array Value → Addr → Pt → Prop} (hK : vx_Back l R p e below s args y 3 W9 Pre Post PostX)
    {g : JFrame} (hg : g.method = m) (hsize : g.locals.size = c.maxLocals) {argsL rest : List Value} (hlen : ∀ sig, parseMethodDescriptor y.desc = some sig → argsL.length = sig.parameters.length)
    (hstack : g.stack = argsL.reverse ++ rest) (hW : 2 * g.monitorRoom + (rest.map fun v => v.category).sum ≤ W9) (hdg : decode c.code g.pc = .ok (.invokestatic index, 3))
    (hpre : ∀ vm₁, s.WarmedH vm₁ → Pre ⟨T.setVm vm₁, locs, cells, slots⟩ argsL.toArray) :
    (∃ (v : Option Value) (vm₁ : Vm) (B : Pt), s.WarmedH vm₁ ∧ Stand p l e R s m args below meth c B.U B.locs B.cells B.slots ∧ Post ⟨T.setVm vm₁, locs, cells, slots⟩ argsL.toArray v B ∧
      ∀ target, Steps p.tables e below (B.U.setTop { g with pc := g.pc + 3, stack := v.toList ++ rest }) target → Steps p.tables e below (T.setTop g) target) ∨
    (∃ (q : Addr) (vm₁ : Vm) (B : Pt), s.WarmedH vm₁ ∧ Stand p l e R s m args below meth c B.U B.locs B.cells B.slots ∧ PostX ⟨T.setVm vm₁, locs, cells, slots⟩ argsL.toArray q B ∧
      Steps p.tables e below (T.setTop g) ((B.U.setTop { g with stack := rest }).pushFrame (.throwing q))) := by
  obtain ⟨mk, hnamed⟩ := Cond.code_named hcode
  obtain ⟨methM, cM, hmethM, -, -, -, -, -, -, hsigM⟩ := Cond.code_spec hnamed hcode
  have hstatic : methM.isStatic = true := Cond.static_spec hnamed hmethM hstat
  obtain ⟨kP, hkP, -⟩ := className_of_methodNamed hnamed
  have hinitP : kP.init = .initialized := Cond.initialized_spec (findClass_of_methodNamed hnamed) hkP hinit
  obtain ⟨vm₁, X₁, hstep₁⟩ := X.invokestatic hexec hown hlink hnamed hmethM hstatic hkP hinitP hy (g := g) hg (argsL := argsL) (rest := rest) (hlen _ hsigM) hstack hdg
  rcases hK m meth c ⟨T.setVm vm₁, locs, cells, slots⟩ { g with stack := rest } (.invokestatic index) mk argsL.toArray X₁ hg hsize hdg hW (X₁.named hnamed) (hpre vm₁ X₁.warmed) with ⟨v, B, X', hpost, hsteps⟩ | ⟨q, B, X', hpost, hsteps⟩
  · exact Or.inl ⟨v, vm₁, B, X₁.warmed, X', hpost, fun target h => hstep₁ _ fun acts => by rw [doInvoke_state]; exact hsteps.trans h⟩
  · exact Or.inr ⟨q, vm₁, B, X₁.warmed, X', hpost, hstep₁ _ fun acts => by rw [doInvoke_state]; exact hsteps⟩
end Calls
theorem vx_cls {s : State} {T : State} {vm₁ : Vm} {E : String} {k : ClassId} (hW : s.WarmedH vm₁) (h : (T.setVm vm₁).vm.findClass E = some k) : s.vm.findClass E = some k := by
  have h1 : vm₁.findClass E = some k := h
  rw [hW.alike.findClass] at h1
  exact h1
/-- the method's frame g, with q thrown over it -/
def vx_W (p : Program) (l : Launch) (e : Env) (R : Room) (s : State) (m : MethodId) (args : Array Value) (below : List Frame) (meth : Method) (c : Code) (H : Heap) (locs : List Loc) (cells slots : Nat) (Q : State → Prop) (g : JFrame) (q : Addr) : Prop :=
  ∀ T : State, T.heap = H → Stand p l e R s m args below meth c T locs cells slots → ∃ t, Steps p.tables e below ((T.setTop g).pushFrame (.throwing q)) t ∧ Q t
def vx_Run (p : Program) (l : Launch) (e : Env) (R : Room) (s : State) (m : MethodId) (args : Array Value) (below : List Frame) (meth : Method) (c : Code) (H : Heap) (locs : List Loc) (cells slots mc ms : Nat) (g : JFrame) (rest : List Value) (Qa : State → Outcome → State → Prop) (XC : String → State → State → Prop) (free : Addr → Prop) : Prop :=
  ∀ T : State, T.heap = H → Stand p l e R s m args below meth c T locs cells slots →
    (∃ (v : Option Value) (st₀ t T' : State) (L : List Loc), st₀.heap = H ∧ Stand p l e R s m args below meth c T' (locs ++ L) (cells + mc) (slots + ms) ∧ (∀ q ∈ L, free q.base) ∧ T'.heap = t.heap ∧ T'.vm = t.vm ∧ Qa st₀ (.returned v) t ∧
      Goes p e below T g T' { g with pc := g.pc + 3, stack := v.toList ++ rest }) ∨
    (∃ (q : Addr) (st₀ t T' : State) (L : List Loc) (E : String) (ce : Cell), st₀.heap = H ∧ Stand p l e R s m args below meth c T' (locs ++ L) (cells + mc) (slots + ms) ∧ (∀ z ∈ L, free z.base) ∧ T'.heap = t.heap ∧ T'.vm = t.vm ∧ XC E st₀ t ∧ t.heap[q]? = some ce ∧ ce.vm = .none ∧ s.vm.findClass E = some ce.cls ∧
      Steps p.tables e below (T.setTop g) ((T'.setTop { g with stack := rest }).pushFrame (.throwing q)))
def vx_X {S : Type} (px : S → Prop) (B : String → S → State → Prop) (A : Nat → Prop) : String → State → State → Prop := fun E st t => ∃ u : S, px u ∧ B E u t ∧ va_F A st t
section Runs
variable {p : Program} {l : Launch} {e : Env} {R : Room} {s : State} {m : MethodId} {args : Array Value} {below : List Frame} {meth : Method} {c : Code} {H : Heap} {locs : List Loc} {cells slots : Nat}
variable {y : MethodName} {bytes cc : ByteArray} {maxL nL mc ms n index : Nat} {ret : Option FieldType} {ws : List Cond} {rm : Room} {Pc : Array Value → State → Prop} {Qc : Array Value → State → Outcome → State → Prop} {XC : String → State → State → Prop} {free : Addr → Prop} {Ts : List Cond} {own C : String} {b : Addr} {As rest : List Value} {g : JFrame}
theorem vx_callBack (cb : CallB R s args own index y bytes maxL ret ws rm mc ms n) (hM : vx_Met l y ws rm Pc Qc XC mc ms free) (hbl : FrameBlind Pc) : vx_Back l R p e below s args y 3 8 (PreOf R mc ms Pc) (PostOf Qc mc ms free) (vx_Post XC mc ms free) := by
  obtain ⟨hrc, hrs, hfr, hlo, hws, hcw, -, hini, -⟩ := cb
  exact vx_back (bytes := bytes) (maxL := maxL) (ret := ret) hM hbl hrc hrs hfr hlo hws hcw (fun a' U hW => word_at hW (Or.inl (by first | rfl | simp [Cond.onTables, Cond.keeps, Cond.steady])) hini)
theorem vx_runV (S : CallFix p m c cc nL s args Ts own) (hM : vx_Met l y ws rm Pc Qc XC mc ms free) (cw : CallW R s args own C index y bytes maxL ret ws rm mc ms n) (hp : PreV s H C b Pc As)
    (hg : g.method = m) (hn : As.length = n) (hsize : g.locals.size = nL) (hstack : g.stack = As.reverse ++ .ref b :: rest) (hW : 2 * g.monitorRoom + (rest.map fun v => v.category).sum ≤ 8) (hdg : decode cc g.pc = .ok (.invokevirtual index, 3)) (hf : cells + mc ≤ R.cells ∧ slots + ms ≤ R.slots) :
    vx_Run p l e R s m args below meth c H locs cells slots mc ms g rest (Qc (Value.ref b :: As).toArray) XC free := by
  have hK : vx_Back l R p e below s args y 3 8 (PreOf R mc ms Pc) (PostOf Qc mc ms free) (vx_Post XC mc ms free) := vx_callBack cw.1 hM hp.1
  obtain ⟨⟨-, -, -, -, -, -, hcode, -, hy, hlen, hl⟩, hin, hse⟩ := cw
  obtain ⟨hx, hb, hml, ho, -⟩ := S
  obtain ⟨-, ⟨cellB, hcB, hoB, hclB⟩, hPc⟩ := hp
  intro T hT X
  rcases vx_callV X hx (C := C) (bytes := bytes) (maxL := maxL) (ret := ret) ho hl hin hse hcode hy hK (by rw [hT]; exact hcB) hoB hclB hg (hsize.trans hml.symm) (argsL := As) (rest := rest) (fun sig h => hn.trans (hlen sig h)) hstack hW (by rw [hb]; exact hdg)
    (fun vm₁ hW₁ => ⟨hf.1, hf.2, hPc (T.setVm vm₁) hT hW₁⟩) with ⟨v, vm₁, ⟨U', l2, c2, s2⟩, hW₁, X', ⟨g', mk, t, L, e1, e2, hq, h1, hL, h2, h3⟩, st⟩ | ⟨q, vm₁, ⟨U', l2, c2, s2⟩, hW₁, X', ⟨g', mk, t, L, E, ce, e1, e2, hq, hce, hcv, hcl, h1, hL, h2, h3⟩, st⟩
  · dsimp only [Pt.U, Pt.locs, Pt.cells, Pt.slots] at X' e1 e2 h1 h2 h3 st
    subst h1; subst h2; subst h3
    exact Or.inl ⟨v, (T.setVm vm₁).calling g' mk (Value.ref b :: As).toArray, t, U', L, hT, X', hL, e1, e2, hq, st⟩
  · dsimp only [Pt.U, Pt.locs, Pt.cells, Pt.slots] at X' e1 e2 h1 h2 h3 st hcl
    subst h1; subst h2; subst h3
    exact Or.inr ⟨q, (T.setVm vm₁).calling g' mk (Value.ref b :: As).toArray, t, U', L, E, ce, hT, X', hL, e1, e2, hq, hce, hcv, vx_cls hW₁ hcl, st⟩
theorem vx_runS (S : CallFix p m c cc nL s args Ts own) (hM : vx_Met l y ws rm Pc Qc XC mc ms free) (cw : CallB R s args own index y bytes maxL ret ws rm mc ms n ∧ (Cond.static y).before args s = true) (hp : PreS s H Pc As)
    (hg : g.method = m) (hn : As.length = n) (hsize : g.locals.size = nL) (hstack : g.stack = As.reverse ++ rest) (hW : 2 * g.monitorRoom + (rest.map fun v => v.category).sum ≤ 8) (hdg : decode cc g.pc = .ok (.invokestatic index, 3)) (hf : cells + mc ≤ R.cells ∧ slots + ms ≤ R.slots) :
    vx_Run p l e R s m args below meth c H locs cells slots mc ms g rest (Qc As.toArray) XC free := by
  have hK : vx_Back l R p e below s args y 3 8 (PreOf R mc ms Pc) (PostOf Qc mc ms free) (vx_Post XC mc ms free) := vx_callBack cw.1 hM hp.1
  obtain ⟨⟨-, -, -, -, -, -, hcode, hini, hy, hlen, hl⟩, hstt⟩ := cw
  obtain ⟨hx, hb, hml, ho, -⟩ := S
  intro T hT X
  rcases vx_callS X hx (bytes := bytes) (maxL := maxL) (ret := ret) ho hl hstt hini hcode hy hK hg (hsize.trans hml.symm) (argsL := As) (rest := rest) (fun sig h => hn.trans (hlen sig h)) hstack hW (by rw [hb]; exact hdg)
    (fun vm₁ hW₁ => ⟨hf.1, hf.2, hp.2 (T.setVm vm₁) hT hW₁⟩) with ⟨v, vm₁, ⟨U', l2, c2, s2⟩, hW₁, X', ⟨g', mk, t, L, e1, e2, hq, h1, hL, h2, h3⟩, st⟩ | ⟨q, vm₁, ⟨U', l2, c2, s2⟩, hW₁, X', ⟨g', mk, t, L, E, ce, e1, e2, hq, hce, hcv, hcl, h1, hL, h2, h3⟩, st⟩
  · dsimp only [Pt.U, Pt.locs, Pt.cells, Pt.slots] at X' e1 e2 h1 h2 h3 st
    subst h1; subst h2; subst h3
    exact Or.inl ⟨v, (T.setVm vm₁).calling g' mk As.toArray, t, U', L, hT, X', hL, e1, e2, hq, st⟩
  · dsimp only [Pt.U, Pt.locs, Pt.cells, Pt.slots] at X' e1 e2 h1 h2 h3 st hcl
    subst h1; subst h2; subst h3
    exact Or.inr ⟨q, (T.setVm vm₁).calling g' mk As.toArray, t, U', L, E, ce, hT, X', hL, e1, e2, hq, hce, hcv, vx_cls hW₁ hcl, st⟩
end Runs
section Rows
variable {p : Program} {l : Launch} {e : Env} {R : Room} {s : State} {m : MethodId} {args : Array Value} {below : List Frame} {meth : Method} {c : Code} {H : Heap} {locs : List Loc} {cells slots : Nat} {Q : State → Prop}
variable {mc ms : Nat} {free : Addr → Prop} {A0 A1 : Nat → Prop} {H0 : Heap} {a : Array Value} {pc : Nat} {ls : Array Slot} {st0 rest : List Value}
theorem vx_keep {st₀ t T' : State} {L : List Loc} (h0 : st₀.heap = H) (e1 : T'.heap = t.heap) (hS : va_S A0 H0 H locs) (hA : ∀ q, q < H.size → A1 q → A0 q) (hf : ∀ q, free q → A0 q) (hL : ∀ q ∈ L, free q.base) (hF : va_F A1 st₀ t) :
    H.size ≤ T'.heap.size ∧ (∀ q : Nat, q < H.size → ¬ A1 q → T'.heap[q]? = H[q]?) ∧ va_S A0 H0 T'.heap (locs ++ L) := by
  obtain ⟨hz, hk⟩ := hF
  rw [h0] at hz hk
  exact ⟨by rw [e1]; exact hz, fun q h1 h2 => by rw [e1]; exact hk q h1 h2,
    ⟨Nat.le_trans hS.1 (by rw [e1]; exact hz), fun q h1 h2 => by rw [e1, hk q (Nat.lt_of_lt_of_le h1 hS.1) (fun z => h2 (hA q (Nat.lt_of_lt_of_le h1 hS.1) z))]; exact hS.2.1 q h1 h2, fun q hq => by
      rcases List.mem_append.mp hq with h | h
      · exact hS.2.2 q h
      · exact hf _ (hL q h)⟩⟩
theorem vx_calli {S SX : Type} {post : Int32 → S → Prop} {px : SX → Prop} {B : S → State → Prop} {BX : String → SX → State → Prop} {AX : Nat → Prop} (hr : vx_Run p l e R s m args below meth c H locs cells slots mc ms (F0 m pc ls st0) rest (va_Qi post B A1 a) (vx_X px BX AX) free) (hS : va_S A0 H0 H locs) (hA : ∀ q, q < H.size → A1 q → A0 q) (hf : ∀ q, free q → A0 q) (hAX : ∀ q, q < H.size → AX q → A0 q)
    (kx : ∀ (E : String) (ce : Cell) (q9 : Addr) (u : SX) (t : State) (H1 : Heap) (locs1 : List Loc), t.heap = H1 → s.vm.Alike t.vm → px u → BX E u t → H.size ≤ H1.size → (∀ q : Nat, q < H.size → ¬ AX q → H1[q]? = H[q]?) → va_S A0 H0 H1 locs1 → H1[q9]? = some ce → ce.vm = .none → s.vm.findClass E = some ce.cls → vx_W p l e R s m args below meth c H1 locs1 (cells + mc) (slots + ms) Q (F0 m pc ls rest) q9)
    (kk : ∀ (r : Int32) (u : S) (t : State) (H1 : Heap) (locs1 : List Loc), t.heap = H1 → s.vm.Alike t.vm → post r u → B u t → H.size ≤ H1.size → (∀ q : Nat, q < H.size → ¬ A1 q → H1[q]? = H[q]?) → va_S A0 H0 H1 locs1 → W p l e R s m args below meth c H1 locs1 (cells + mc) (slots + ms) Q (F0 m (pc + 3) ls (.int r :: rest))) : W p l e R s m args below meth c H locs cells slots Q (F0 m pc ls st0) := by
  intro T hT X
  rcases hr T hT X with ⟨v, st₀, t, T', L, h0, X', hL, e1, e2, ⟨⟨r, u, hv, hp, hb⟩, hF⟩, st⟩ | ⟨q, st₀, t, T', L, E, ce, h0, X', hL, e1, e2, ⟨u, hp, hb, hF⟩, hce, hcv, hcl, st⟩
  · cases hv
    obtain ⟨k1, k2, k3⟩ := vx_keep h0 e1 hS hA hf hL hF
    obtain ⟨t2, a1, b1⟩ := kk r u t T'.heap (locs ++ L) e1.symm (by rw [← e2]; exact X'.warmed.alike) hp hb k1 k2 k3 T' rfl X'
    exact ⟨t2, st t2 a1, b1⟩
  · obtain ⟨k1, k2, k3⟩ := vx_keep h0 e1 hS hAX hf hL hF
    obtain ⟨t2, a1, b1⟩ := kx E ce q u t T'.heap (locs ++ L) e1.symm (by rw [← e2]; exact X'.warmed.alike) hp hb k1 k2 k3 (by rw [e1]; exact hce) hcv hcl T' rfl X'
    exact ⟨t2, st.trans a1, b1⟩
theorem vx_calll {S SX : Type} {post : Int64 → S → Prop} {px : SX → Prop} {B : S → State → Prop} {BX : String → SX → State → Prop} {AX : Nat → Prop} (hr : vx_Run p l e R s m args below meth c H locs cells slots mc ms (F0 m pc ls st0) rest (va_Ql post B A1 a) (vx_X px BX AX) free) (hS : va_S A0 H0 H locs) (hA : ∀ q, q < H.size → A1 q → A0 q) (hf : ∀ q, free q → A0 q) (hAX : ∀ q, q < H.size → AX q → A0 q)
    (kx : ∀ (E : String) (ce : Cell) (q9 : Addr) (u : SX) (t : State) (H1 : Heap) (locs1 : List Loc), t.heap = H1 → s.vm.Alike t.vm → px u → BX E u t → H.size ≤ H1.size → (∀ q : Nat, q < H.size → ¬ AX q → H1[q]? = H[q]?) → va_S A0 H0 H1 locs1 → H1[q9]? = some ce → ce.vm = .none → s.vm.findClass E = some ce.cls → vx_W p l e R s m args below meth c H1 locs1 (cells + mc) (slots + ms) Q (F0 m pc ls rest) q9)
    (kk : ∀ (r : Int64) (u : S) (t : State) (H1 : Heap) (locs1 : List Loc), t.heap = H1 → s.vm.Alike t.vm → post r u → B u t → H.size ≤ H1.size → (∀ q : Nat, q < H.size → ¬ A1 q → H1[q]? = H[q]?) → va_S A0 H0 H1 locs1 → W p l e R s m args below meth c H1 locs1 (cells + mc) (slots + ms) Q (F0 m (pc + 3) ls (.long r :: rest))) : W p l e R s m args below meth c H locs cells slots Q (F0 m pc ls st0) := by
  intro T hT X
  rcases hr T hT X with ⟨v, st₀, t, T', L, h0, X', hL, e1, e2, ⟨⟨r, u, hv, hp, hb⟩, hF⟩, st⟩ | ⟨q, st₀, t, T', L, E, ce, h0, X', hL, e1, e2, ⟨u, hp, hb, hF⟩, hce, hcv, hcl, st⟩
  · cases hv
    obtain ⟨k1, k2, k3⟩ := vx_keep h0 e1 hS hA hf hL hF
    obtain ⟨t2, a1, b1⟩ := kk r u t T'.heap (locs ++ L) e1.symm (by rw [← e2]; exact X'.warmed.alike) hp hb k1 k2 k3 T' rfl X'
    exact ⟨t2, st t2 a1, b1⟩
  · obtain ⟨k1, k2, k3⟩ := vx_keep h0 e1 hS hAX hf hL hF
    obtain ⟨t2, a1, b1⟩ := kx E ce q u t T'.heap (locs ++ L) e1.symm (by rw [← e2]; exact X'.warmed.alike) hp hb k1 k2 k3 (by rw [e1]; exact hce) hcv hcl T' rfl X'
    exact ⟨t2, st.trans a1, b1⟩
theorem vx_callf {S SX : Type} {post : UInt32 → S → Prop} {px : SX → Prop} {B : S → State → Prop} {BX : String → SX → State → Prop} {AX : Nat → Prop} (hr : vx_Run p l e R s m args below meth c H locs cells slots mc ms (F0 m pc ls st0) rest (va_Qf post B A1 a) (vx_X px BX AX) free) (hS : va_S A0 H0 H locs) (hA : ∀ q, q < H.size → A1 q → A0 q) (hf : ∀ q, free q → A0 q) (hAX : ∀ q, q < H.size → AX q → A0 q)
    (kx : ∀ (E : String) (ce : Cell) (q9 : Addr) (u : SX) (t : State) (H1 : Heap) (locs1 : List Loc), t.heap = H1 → s.vm.Alike t.vm → px u → BX E u t → H.size ≤ H1.size → (∀ q : Nat, q < H.size → ¬ AX q → H1[q]? = H[q]?) → va_S A0 H0 H1 locs1 → H1[q9]? = some ce → ce.vm = .none → s.vm.findClass E = some ce.cls → vx_W p l e R s m args below meth c H1 locs1 (cells + mc) (slots + ms) Q (F0 m pc ls rest) q9)
    (kk : ∀ (r : UInt32) (u : S) (t : State) (H1 : Heap) (locs1 : List Loc), t.heap = H1 → s.vm.Alike t.vm → post r u → B u t → H.size ≤ H1.size → (∀ q : Nat, q < H.size → ¬ A1 q → H1[q]? = H[q]?) → va_S A0 H0 H1 locs1 → W p l e R s m args below meth c H1 locs1 (cells + mc) (slots + ms) Q (F0 m (pc + 3) ls (.float r :: rest))) : W p l e R s m args below meth c H locs cells slots Q (F0 m pc ls st0) := by
  intro T hT X
  rcases hr T hT X with ⟨v, st₀, t, T', L, h0, X', hL, e1, e2, ⟨⟨r, u, hv, hp, hb⟩, hF⟩, st⟩ | ⟨q, st₀, t, T', L, E, ce, h0, X', hL, e1, e2, ⟨u, hp, hb, hF⟩, hce, hcv, hcl, st⟩
  · cases hv
    obtain ⟨k1, k2, k3⟩ := vx_keep h0 e1 hS hA hf hL hF
    obtain ⟨t2, a1, b1⟩ := kk r u t T'.heap (locs ++ L) e1.symm (by rw [← e2]; exact X'.warmed.alike) hp hb k1 k2 k3 T' rfl X'
    exact ⟨t2, st t2 a1, b1⟩
  · obtain ⟨k1, k2, k3⟩ := vx_keep h0 e1 hS hAX hf hL hF
    obtain ⟨t2, a1, b1⟩ := kx E ce q u t T'.heap (locs ++ L) e1.symm (by rw [← e2]; exact X'.warmed.alike) hp hb k1 k2 k3 (by rw [e1]; exact hce) hcv hcl T' rfl X'
    exact ⟨t2, st.trans a1, b1⟩
theorem vx_calld {S SX : Type} {post : UInt64 → S → Prop} {px : SX → Prop} {B : S → State → Prop} {BX : String → SX → State → Prop} {AX : Nat → Prop} (hr : vx_Run p l e R s m args below meth c H locs cells slots mc ms (F0 m pc ls st0) rest (va_Qd post B A1 a) (vx_X px BX AX) free) (hS : va_S A0 H0 H locs) (hA : ∀ q, q < H.size → A1 q → A0 q) (hf : ∀ q, free q → A0 q) (hAX : ∀ q, q < H.size → AX q → A0 q)
    (kx : ∀ (E : String) (ce : Cell) (q9 : Addr) (u : SX) (t : State) (H1 : Heap) (locs1 : List Loc), t.heap = H1 → s.vm.Alike t.vm → px u → BX E u t → H.size ≤ H1.size → (∀ q : Nat, q < H.size → ¬ AX q → H1[q]? = H[q]?) → va_S A0 H0 H1 locs1 → H1[q9]? = some ce → ce.vm = .none → s.vm.findClass E = some ce.cls → vx_W p l e R s m args below meth c H1 locs1 (cells + mc) (slots + ms) Q (F0 m pc ls rest) q9)
    (kk : ∀ (r : UInt64) (u : S) (t : State) (H1 : Heap) (locs1 : List Loc), t.heap = H1 → s.vm.Alike t.vm → post r u → B u t → H.size ≤ H1.size → (∀ q : Nat, q < H.size → ¬ A1 q → H1[q]? = H[q]?) → va_S A0 H0 H1 locs1 → W p l e R s m args below meth c H1 locs1 (cells + mc) (slots + ms) Q (F0 m (pc + 3) ls (.double r :: rest))) : W p l e R s m args below meth c H locs cells slots Q (F0 m pc ls st0) := by
  intro T hT X
  rcases hr T hT X with ⟨v, st₀, t, T', L, h0, X', hL, e1, e2, ⟨⟨r, u, hv, hp, hb⟩, hF⟩, st⟩ | ⟨q, st₀, t, T', L, E, ce, h0, X', hL, e1, e2, ⟨u, hp, hb, hF⟩, hce, hcv, hcl, st⟩
  · cases hv
    obtain ⟨k1, k2, k3⟩ := vx_keep h0 e1 hS hA hf hL hF
    obtain ⟨t2, a1, b1⟩ := kk r u t T'.heap (locs ++ L) e1.symm (by rw [← e2]; exact X'.warmed.alike) hp hb k1 k2 k3 T' rfl X'
    exact ⟨t2, st t2 a1, b1⟩
  · obtain ⟨k1, k2, k3⟩ := vx_keep h0 e1 hS hAX hf hL hF
    obtain ⟨t2, a1, b1⟩ := kx E ce q u t T'.heap (locs ++ L) e1.symm (by rw [← e2]; exact X'.warmed.alike) hp hb k1 k2 k3 (by rw [e1]; exact hce) hcv hcl T' rfl X'
    exact ⟨t2, st.trans a1, b1⟩
theorem vx_callv {S SX : Type} {post : S → Prop} {px : SX → Prop} {B : S → State → Prop} {BX : String → SX → State → Prop} {AX : Nat → Prop} (hr : vx_Run p l e R s m args below meth c H locs cells slots mc ms (F0 m pc ls st0) rest (va_Qv post B A1 a) (vx_X px BX AX) free) (hS : va_S A0 H0 H locs) (hA : ∀ q, q < H.size → A1 q → A0 q) (hf : ∀ q, free q → A0 q) (hAX : ∀ q, q < H.size → AX q → A0 q)
    (kx : ∀ (E : String) (ce : Cell) (q9 : Addr) (u : SX) (t : State) (H1 : Heap) (locs1 : List Loc), t.heap = H1 → s.vm.Alike t.vm → px u → BX E u t → H.size ≤ H1.size → (∀ q : Nat, q < H.size → ¬ AX q → H1[q]? = H[q]?) → va_S A0 H0 H1 locs1 → H1[q9]? = some ce → ce.vm = .none → s.vm.findClass E = some ce.cls → vx_W p l e R s m args below meth c H1 locs1 (cells + mc) (slots + ms) Q (F0 m pc ls rest) q9)
    (kk : ∀ (u : S) (t : State) (H1 : Heap) (locs1 : List Loc), t.heap = H1 → s.vm.Alike t.vm → post u → B u t → H.size ≤ H1.size → (∀ q : Nat, q < H.size → ¬ A1 q → H1[q]? = H[q]?) → va_S A0 H0 H1 locs1 → W p l e R s m args below meth c H1 locs1 (cells + mc) (slots + ms) Q (F0 m (pc + 3) ls (rest))) : W p l e R s m args below meth c H locs cells slots Q (F0 m pc ls st0) := by
  intro T hT X
  rcases hr T hT X with ⟨v, st₀, t, T', L, h0, X', hL, e1, e2, ⟨⟨u, hv, hp, hb⟩, hF⟩, st⟩ | ⟨q, st₀, t, T', L, E, ce, h0, X', hL, e1, e2, ⟨u, hp, hb, hF⟩, hce, hcv, hcl, st⟩
  · cases hv
    obtain ⟨k1, k2, k3⟩ := vx_keep h0 e1 hS hA hf hL hF
    obtain ⟨t2, a1, b1⟩ := kk u t T'.heap (locs ++ L) e1.symm (by rw [← e2]; exact X'.warmed.alike) hp hb k1 k2 k3 T' rfl X'
    exact ⟨t2, st t2 a1, b1⟩
  · obtain ⟨k1, k2, k3⟩ := vx_keep h0 e1 hS hAX hf hL hF
    obtain ⟨t2, a1, b1⟩ := kx E ce q u t T'.heap (locs ++ L) e1.symm (by rw [← e2]; exact X'.warmed.alike) hp hb k1 k2 k3 (by rw [e1]; exact hce) hcv hcl T' rfl X'
    exact ⟨t2, st.trans a1, b1⟩
/-- caught by the row x of this method's table; the rows ahead don't take it -/
theorem vx_catch {own name : String} {E : String} {ce : Cell} {q : Addr} (hown : s.vm.findClass own = some m.cls) (pre : List ExceptionTableEntry) (x : ExceptionTableEntry) (suf : List ExceptionTableEntry) (hsplit : c.exceptionTable.toList = pre ++ x :: suf)
    (hpass : ∀ z ∈ pre, covers z pc = false ∨ (z.catchType ≠ 0 ∧ ∃ nm : String, (Cond.classLink own z.catchType nm).before args s = true ∧ va_Nc E nm s)) (hx : covers x pc = true) (h0 : x.catchType ≠ 0)
    (hlink : (Cond.classLink own x.catchType name).before args s = true) (hcast : (Cond.castable E name).before args s = true) (hcell : H[q]? = some ce) (hv : ce.vm = .none) (hcl : s.vm.findClass E = some ce.cls)
    (kk : W p l e R s m args below meth c H locs cells slots Q (F0 m x.handlerPc ls [.ref q])) : vx_W p l e R s m args below meth c H locs cells slots Q (F0 m pc ls rest) q := by
  intro T hT X
  have hpl : e.platform.magicAccessors = ({} : Platform).magicAccessors := by rw [X.admits.platform]
  obtain ⟨c3, c4, hc3, hc4, hasg⟩ := Cond.castable_spec hcast
  cases Option.some.inj (hc3.symm.trans hcl)
  obtain ⟨c5, hc5, hcl5⟩ := Cond.classLink_spec hown hlink e.platform hpl
  cases Option.some.inj (hc4.symm.trans hc5)
  obtain ⟨vm', X', st⟩ := X.thenCaughtThrough q (g := F0 m pc ls rest) rfl (Steps.refl _) (by rw [hT]; exact hcell) (by rw [hv]; rfl) (by obtain ⟨k9, h9, -⟩ := Vm.findClass_spec hcl; exact ⟨k9, h9⟩) pre x suf hsplit
    (fun z hz => by
      rcases hpass z hz with h | ⟨hz0, nm, hl1, hn1⟩
      · exact Or.inl h
      · obtain ⟨c6, hc6, hcl6⟩ := Cond.classLink_spec hown hl1 e.platform hpl
        obtain ⟨a8, b8, h1, h2, h3⟩ := hn1
        cases Option.some.inj (h1.symm.trans hcl)
        cases Option.some.inj (h2.symm.trans hc6)
        exact Or.inr ⟨hz0, _, hcl6, h3⟩) hx (Or.inr ⟨h0, c4, hcl5, hasg⟩)
  obtain ⟨t, a1, b1⟩ := kk (T.setVm vm') hT X'
  exact ⟨t, st.trans a1, b1⟩
end Rows
section Ends
variable {p : Program} {l : Launch} {e : Env} {R : Room} {s : State} {m : MethodId} {args : Array Value} {below : List Frame} {meth : Method} {c : Code} {H : Heap} {locs : List Loc} {cells slots : Nat} {Q : State → Prop}
variable {mc ms : Nat} {free : Addr → Prop} {A0 A1 : Nat → Prop} {H0 : Heap} {a : Array Value} {ls : Array Slot} {st0 rest : List Value}
variable {Qc : Array Value → State → Outcome → State → Prop} {XC : String → State → State → Prop}
/-- what a body that may throw owes at its end -/
def vx_MQ (below : List Frame) (Qc : Array Value → State → Outcome → State → Prop) (XC : String → State → State → Prop) (a : Array Value) (s : State) (mc ms : Nat) (free : Addr → Prop) : State → Prop := fun t =>
  ∃ o, t.status = .running ∧ Ended t below o ∧ vx_Q Qc XC mc ms free a s o t
theorem vx_ret {g : JFrame} {mc ms : Nat} (k : W p l e R s m args below meth c H locs cells slots (MQ below Qc args s mc ms free) g) : W p l e R s m args below meth c H locs cells slots (vx_MQ below Qc XC args s mc ms free) g := by
  intro T hT X
  obtain ⟨t, a1, o, b1, b2, b3, b4⟩ := k T hT X
  exact ⟨t, a1, o, b1, b2, Or.inl ⟨b3, b4⟩⟩
/-- not caught here: it goes on to the caller -/
theorem vx_widen {g : JFrame} {q : Addr} {k n : Nat} (h1 : cells ≤ k) (h2 : slots ≤ n) (kk : vx_W p l e R s m args below meth c H locs k n Q g q) : vx_W p l e R s m args below meth c H locs cells slots Q g q := fun T hT X => kk T hT (stand_widen X h1 h2)
theorem vx_out {pc : Nat} {E : String} {ce : Cell} {q : Addr} {mc ms : Nat} (hout : ∀ x ∈ c.exceptionTable.toList, covers x pc = false) (hlocks : meth.locks = false) (hcell : H[q]? = some ce) (hv : ce.vm = .none) (hcl : s.vm.findClass E = some ce.cls)
    (hx : ∀ t : State, t.heap = H → s.vm.Alike t.vm → XC E s t) (hf : ∀ z ∈ locs, free z.base) (hc : cells ≤ mc) (hs : slots ≤ ms) :
    vx_W p l e R s m args below meth c H locs cells slots (vx_MQ below Qc XC args s mc ms free) (F0 m pc ls rest) q := by
  intro T hT X
  obtain ⟨st1, hrun, hend, hW, hsm⟩ := X.leaveThrown q (g := F0 m pc ls rest) rfl rfl rfl hout hlocks
  have hcell9 : (T.setFrames (.throwing q :: below)).heap[q]? = some ce := by
    show T.heap[q]? = some ce
    rw [hT]; exact hcell
  exact ⟨_, st1, .threw q, hrun, hend, Or.inr ⟨q, rfl, E, ce, locs, hx _ hT hW.alike, hcell9, hv, hcl, hW, hsm.mono hc hs, hf⟩⟩
theorem vx_frame {U : State} {k n : Nat} (h : s.sameButNew ({ U with vm := s.vm } : State) locs k n) : s.heap.size ≤ U.heap.size ∧ ∀ q : Nat, q < s.heap.size → (∀ z ∈ locs, z.base ≠ q) → U.heap[q]? = s.heap[q]? := by
  obtain ⟨-, h2, -, -, -, h6⟩ := h
  refine ⟨h2, fun q hq hz => ?_⟩
  obtain ⟨c9, e1, e2, e3, e4⟩ := h6 q _ (Array.getElem?_eq_getElem hq)
  have hs : c9.slots = (s.heap[q]).slots := Array.ext_getElem? fun i => e4 i fun hm => hz _ hm rfl
  have h9 : c9 = s.heap[q] := by
    rw [hs] at e2
    exact e2
  have e5 : U.heap[q]? = some c9 := e1
  rw [e5, h9, Array.getElem?_eq_getElem hq]
/-- the words of a throw but the four that speak of the heap -/
def vx_no (w : Cond) : Bool := decide (w ≠ .isRef (.static Bundle.tN "UNASSIGNED_STACK" Bundle.steD)) && decide (w ≠ .isRef (.static Bundle.tN "SUPPRESSED_SENTINEL" Bundle.listD)) && decide (w ≠ .laysStatic Bundle.tN "UNASSIGNED_STACK" Bundle.steD) && decide (w ≠ .laysStatic Bundle.tN "SUPPRESSED_SENTINEL" Bundle.listD)
def vx_at0 (own : String) (ic : Nat) (X : String) (names : List String) : List Cond := (Bundle.ownAtoms0 own ic X names).filter vx_no
def vx_atS (own : String) (ic : Nat) (X : String) (names : List String) : List Cond := (Bundle.ownAtoms own ic X names).filter vx_no
/-- a word that the tables alone decide, or a good one -/
def vx_ot (w : Cond) : Bool := w.onTables || goodWord w
theorem vx_ot_at {args a' : Array Value} {s U : State} {w : Cond} (hW : s.WarmedH U.vm) (hvm : s.vm = U.vm) (hg : vx_ot w = true) (h : w.before args s = true) : w.before a' U = true := by
  simp only [vx_ot, Bool.or_eq_true] at hg
  rcases hg with hg | hg
  · exact va_tabs hg hvm h
  · exact word_at hW (good_of_word hg) h
/-- a list's words: the good ones out of the method's own list, the others by premises of their own -/
theorem vx_hat {args : Array Value} {s : State} {L B : List Cond} (h1 : ∀ w ∈ L.filter goodWord, w.before args s = true) (h2 : ∀ w ∈ L.filter (fun w => !goodWord w), w ∈ B) (h3 : ∀ w ∈ B, w.before args s = true) : ∀ w ∈ L, w.before args s = true := by
  intro w hw
  by_cases g : goodWord w = true
  · exact h1 w (List.mem_filter.mpr ⟨hw, g⟩)
  · refine h3 w (h2 w (List.mem_filter.mpr ⟨hw, ?_⟩))
    show (!goodWord w) = true
    cases hgw : goodWord w
    · rfl
    · exact absurd hgw g
theorem vx_c {args : Array Value} {s : State} {w : Cond} {B : List Cond} (h : w.before args s = true) (t : ∀ w ∈ B, w.before args s = true) : ∀ w' ∈ w :: B, w'.before args s = true := fun w' h' => (List.mem_cons.mp h').elim (fun e => by rw [e]; exact h) (t w')
theorem vx_n {args : Array Value} {s : State} : ∀ w ∈ ([] : List Cond), w.before args s = true := fun _ h => nomatch h
theorem vx_own {args : Array Value} {s : State} {L : List Cond} (h1 : ∀ w ∈ L.filter vx_no, w.before args s = true)
    (hU : (Cond.isRef (.static Bundle.tN "UNASSIGNED_STACK" Bundle.steD)).before args s = true) (hN : (Cond.isRef (.static Bundle.tN "SUPPRESSED_SENTINEL" Bundle.listD)).before args s = true)
    (lU : (Cond.laysStatic Bundle.tN "UNASSIGNED_STACK" Bundle.steD).before args s = true) (lN : (Cond.laysStatic Bundle.tN "SUPPRESSED_SENTINEL" Bundle.listD).before args s = true) : ∀ w ∈ L, w.before args s = true := by
  intro w hw
  by_cases e1 : w = .isRef (.static Bundle.tN "UNASSIGNED_STACK" Bundle.steD)
  · rw [e1]; exact hU
  · by_cases e2 : w = .isRef (.static Bundle.tN "SUPPRESSED_SENTINEL" Bundle.listD)
    · rw [e2]; exact hN
    · by_cases e3 : w = .laysStatic Bundle.tN "UNASSIGNED_STACK" Bundle.steD
      · rw [e3]; exact lU
      · by_cases e4 : w = .laysStatic Bundle.tN "SUPPRESSED_SENTINEL" Bundle.listD
        · rw [e4]; exact lN
        · exact h1 w (List.mem_filter.mpr ⟨hw, by unfold vx_no; rw [decide_eq_true e1, decide_eq_true e2, decide_eq_true e3, decide_eq_true e4]; rfl⟩)
/-- where a static field lies, its class's statics cell in H -/
def vx_L (C n d : String) (A : Nat → Prop) (U : State) (H : Heap) : Prop := ∃ (c : ClassId) (k : Class) (i : Nat) (f : Field) (a : Nat) (cell : Cell), U.vm.findClass C = some c ∧ U.fieldFound? C n d = some (c, k, i, f) ∧ f.isStatic = true ∧ k.statics = some a ∧ H[a]? = some cell ∧ cell.vm.isStatics = true ∧ cell.cls = c ∧ f.slot < cell.slots.size ∧ k.staticTypes[f.slot]? = some f.type ∧ ¬ A a
theorem vx_L.moved {C n d : String} {A : Nat → Prop} {u U : State} {H : Heap} (hvm : u.vm.Alike U.vm) (h : vx_L C n d A u H) : vx_L C n d A U H := by
  obtain ⟨c, k, i, f, a, cell, h1, h2, h3, h4, h5, h6, h7, h8, h9, h10⟩ := h
  obtain ⟨k', hi', he⟩ := State.fieldFound?_setVm hvm h2
  exact ⟨c, k', i, f, a, cell, by rw [hvm.findClass]; exact h1, hi', h3, by rw [he]; exact h4, h5, h6, h7, h8, by rw [he]; exact h9, h10⟩
theorem vx_L.kept {C n d : String} {A : Nat → Prop} {U : State} {H H1 : Heap} (h : vx_L C n d A U H) (hq : ∀ a : Nat, a < H.size → ¬ A a → H1[a]? = H[a]?) : vx_L C n d A U H1 := by
  obtain ⟨c, k, i, f, a, cell, h1, h2, h3, h4, h5, h6, h7, h8, h9, h10⟩ := h
  exact ⟨c, k, i, f, a, cell, h1, h2, h3, h4, by rw [hq a (Array.getElem?_eq_some_iff.mp h5).1 h10]; exact h5, h6, h7, h8, h9, h10⟩
theorem vx_L.narrow {C n d : String} {A B : Nat → Prop} {U : State} {H : Heap} (h : vx_L C n d A U H) (hAB : ∀ q, B q → A q) : vx_L C n d B U H := by
  obtain ⟨c, k, i, f, a, cell, h1, h2, h3, h4, h5, h6, h7, h8, h9, h10⟩ := h
  exact ⟨c, k, i, f, a, cell, h1, h2, h3, h4, h5, h6, h7, h8, h9, fun z => h10 (hAB _ z)⟩
theorem vx_L.word {C n d : String} {A : Nat → Prop} {s : State} {args : Array Value} (h : vx_L C n d A s s.heap) : (Cond.laysStatic C n d).before args s = true := by
  obtain ⟨c, k, i, f, a, cell, h1, h2, h3, h4, h5, h6, h7, h8, h9, -⟩ := h
  show (Cond.laysStatic C n d).holds args s none s [] = true
  exact Cond.laysStatic_of h1 h2 h3 h4 h5 h6 h7 h8 h9
/-- .. and what it holds: null or some reference -/
def vx_Zq (C n d : String) (A : Nat → Prop) (U : State) (H : Heap) : Prop := va_Zq C n d A U H ∧ vx_L C n d A U H
theorem vx_Zq.moved {C n d : String} {A : Nat → Prop} {u U : State} {H : Heap} (hvm : u.vm.Alike U.vm) (h : vx_Zq C n d A u H) : vx_Zq C n d A U H := ⟨va_Zq.moved hvm h.1, vx_L.moved hvm h.2⟩
theorem vx_Zq.kept {C n d : String} {A : Nat → Prop} {U : State} {H H1 : Heap} (h : vx_Zq C n d A U H) (hq : ∀ a : Nat, a < H.size → ¬ A a → H1[a]? = H[a]?) : vx_Zq C n d A U H1 := ⟨va_Zq.kept h.1 hq, vx_L.kept h.2 hq⟩
theorem vx_Zq.narrow {C n d : String} {A B : Nat → Prop} {U : State} {H : Heap} (h : vx_Zq C n d A U H) (hAB : ∀ q, B q → A q) : vx_Zq C n d B U H := ⟨va_Zq.narrow h.1 hAB, vx_L.narrow h.2 hAB⟩
theorem vx_Zqof {args : Array Value} {s : State} {C n d : String} {A : Nat → Prop} (hl : (Cond.laysStatic C n d).before args s = true) (hini : (Cond.initialized C).before args s = true) (h : (Cond.isRef (.static C n d)).before args s = true) (hA : ∀ a : Nat, a < s.heap.size → ¬ A a) : vx_Zq C n d A s s.heap := by
  refine ⟨va_Zqof hl hini h hA, ?_⟩
  obtain ⟨c, k, i, f, a, cell, h1, h2, h3, h4, h5, h6, h7, h8, h9⟩ := Cond.laysStatic_spec hl
  exact ⟨c, k, i, f, a, cell, h1, h2, h3, h4, h5, h6, h7, h8, h9, hA a (Array.getElem?_eq_some_iff.mp h5).1⟩
theorem vx_isRef {C n d : String} {v : Value} {A : Nat → Prop} {s : State} {args : Array Value} (h : va_Z C n d v A s s.heap) (hv : v.isRef = true) : (Cond.isRef (.static C n d)).before args s = true := by
  obtain ⟨cf, kf, fi, f, a, cell, h1, h2, h3, h4, h5, h6, h7, -⟩ := h
  have he : (Term.static C n d).eval args s none [] s = some v := by
    simp [Term.eval, State.fieldNamed?, h1, h2, h4, h5, h6, h7]
  simp only [Cond.before, Cond.holds, Cond.value, he]
  cases v <;> simp_all [Value.isRef]
theorem vx_isRefq {C n d : String} {A : Nat → Prop} {s : State} {args : Array Value} (h : va_Zq C n d A s s.heap) : (Cond.isRef (.static C n d)).before args s = true := by
  rcases h with h | ⟨t, h⟩
  · exact vx_isRef h rfl
  · exact vx_isRef h rfl
/-- the same frame, seen from here: as if the method were called anew in this heap -/
theorem vx_rebase {T : State} (X : Stand p l e R s m args below meth c T locs cells slots) {R' : Room} (hf : R'.frames ≤ R.frames) (hl : R'.locals ≤ R.locals) (hc : cells + R'.cells ≤ R.cells) (hs : slots + R'.slots ≤ R.slots) :
    Stand p l e R' ((T.setVm s.vm).setFrames (.invoking m args :: below)) m args below meth c T [] 0 0 := by
  have htop : (T.setVm s.vm).topJava?.isSome := X.here.top
  have hF : ((T.setVm s.vm).setFrames (.invoking m args :: below)).frames = .invoking m args :: below := State.frames_setFrames _ (State.cur_lt_of_top htop)
  obtain ⟨g₀, hg0⟩ := Option.isSome_iff_exists.mp htop
  obtain ⟨r, hr⟩ := State.topJava?_eq_some.mp hg0
  have hl9 : e.platform.stackLimits (T.setVm s.vm).me = e.platform.stackLimits s.me := X.limits
  have hb9 : (T.setVm s.vm).me.stackBytes = s.me.stackBytes := X.bytes
  refine ⟨X.admits, X.cas, X.clock, hF, ?_, X.hears, X.method, X.code, X.here, X.tail, X.warmed, ?_, ?_, ?_⟩
  · have h := X.room
    have hU : ((T.setVm s.vm).setFrames (.invoking m args :: below)).localsInUse = s.localsInUse := by
      rw [State.localsInUse_invoking hF (meth := meth) (c := c) X.method X.code, State.localsInUse_invoking X.frames X.method X.code]
    simp only [State.hasRoom, Bool.and_eq_true, decide_eq_true_eq] at h ⊢
    obtain ⟨⟨⟨⟨h1, h2, h3, h4, h5, h6⟩, h7⟩, h8⟩, h9⟩ := h
    rw [X.frames, List.length_cons] at h2 h3
    have q1 := X.heapSize
    have q2 := X.used
    simp only [hF, hU, List.length_cons, State.stackLimits_setFrames, State.stackBytes_setFrames, hl9, hb9]
    refine ⟨⟨⟨⟨by omega, by omega, by omega, by omega, by omega, h6⟩, ?_⟩, ?_⟩, X.book⟩
    · show T.heap.size + R'.cells ≤ e.platform.maxCells
      omega
    · show T.slotsUsed + R'.slots ≤ e.platform.maxSlots
      omega
  · rw [State.stackLimits_setFrames]; rfl
  · rw [State.stackBytes_setFrames]; rfl
  · refine ⟨?_, Nat.le_refl _, Nat.le_refl _, ?_, ?_, fun a c9 h9 => ⟨c9, h9, rfl, rfl, fun _ _ => rfl⟩⟩
    · obtain ⟨t, ht, -⟩ := State.frames_cons hr
      show T.setVm s.vm = { ((T.setVm s.vm).setFrames (.invoking m args :: below)).setFrames (T.setVm s.vm).frames with heap := T.heap, slotsUsed := T.slotsUsed }
      rw [State.setFrames_setFrames, State.setFrames_self ht]
      rfl
    · show T.slotsUsed = T.slotsUsed + ((T.heap.toList.drop T.heap.size).map (·.slots.size)).sum
      rw [List.drop_eq_nil_of_le (Nat.le_of_eq Array.length_toList)]
      rfl
    · show ((T.heap.toList.drop T.heap.size).map (·.slots.size)).sum ≤ 0
      rw [List.drop_eq_nil_of_le (Nat.le_of_eq Array.length_toList)]
      exact Nat.le_refl _
/-- 'throw new E()': new; dup; invokespecial; athrow -/
theorem vx_throw0 {cc : ByteArray} {pc : Nat} (hexec : p.tables.exec = Jvm.exec) (hb : c.code = cc) (hl : l.stackTraces = false) {own cls : String} {names : List String} {ik ic mc ms : Nat} {A : Nat → Prop}
    (hown : s.vm.findClass own = some m.cls) (hcls : Bundle.fit cls = true) (hnames : ∀ n ∈ names, Bundle.fit n = true)
    (hk : (Cond.classLink own ik cls).before args s = true) (hini : (Cond.initialized cls).before args s = true) (hat : ∀ w ∈ vx_at0 own ic cls names, w.before args s = true)
    (hgood : ∀ w ∈ Cond.classLink own ik cls :: Cond.initialized cls :: vx_at0 own ic cls names, vx_ot w = true)
    (hU : vx_Zq Bundle.tN "UNASSIGNED_STACK" Bundle.steD A s s.heap) (hN : vx_Zq Bundle.tN "SUPPRESSED_SENTINEL" Bundle.listD A s s.heap) (hS : va_S A s.heap H locs) (hsize : ls.size = c.maxLocals)
    (d0 : decode cc pc = .ok (.new ik, 3)) (d3 : decode cc (pc + 3) = .ok (.dup, 1)) (d4 : decode cc (pc + 4) = .ok (.invokespecial ic, 3)) (d7 : decode cc (pc + 7) = .ok (.athrow, 1))
    (hout : ∀ x ∈ c.exceptionTable.toList, covers x (pc + 7) = false)
    (hRframes : names.length + 3 < R.frames) (hRlocals : (rest.map fun v => v.category).sum + (13 * (names.length + 1) + 42) ≤ R.locals) (hRcells : cells + 1 ≤ R.cells) (hRslots : slots + 6 ≤ R.slots) (hlocks : meth.locks = false)
    (hx : ∀ t : State, s.vm.Alike t.vm → H.size ≤ t.heap.size → (∀ q : Nat, q < H.size → t.heap[q]? = H[q]?) → XC cls s t)
    (hf : ∀ z ∈ locs, free z.base) (hc : cells + 1 ≤ mc) (hs : slots + 6 ≤ ms) :
    W p l e R s m args below meth c H locs cells slots (vx_MQ below Qc XC args s mc ms free) (F0 m pc ls rest) := by
  intro T hT X
  have htr : e.platform.stackTraces = false := (show e.platform.stackTraces = l.stackTraces by rw [X.admits.platform]).trans hl
  have Y := vx_rebase X (R' := { frames := R.frames, locals := R.locals, cells := 1, slots := 6 }) (Nat.le_refl _) (Nat.le_refl _) hRcells hRslots
  obtain ⟨s', hA⟩ : ∃ z, z = (T.setVm s.vm).setFrames (.invoking m args :: below) := ⟨_, rfl⟩
  rw [← hA] at Y
  have hvm : s'.vm = s.vm := by rw [hA]; rfl
  have hhp : s'.heap = H := by rw [hA]; exact hT
  have hW0 : s.WarmedH s'.vm := by rw [hvm]; exact State.WarmedH.refl s
  have hat' : ∀ w ∈ vx_at0 own ic cls names, w.before args s' = true := fun w hw => vx_ot_at hW0 hvm.symm (hgood w (List.mem_cons_of_mem _ (List.mem_cons_of_mem _ hw))) (hat w hw)
  have hk' : (Cond.classLink own ik cls).before args s' = true := vx_ot_at hW0 hvm.symm (hgood _ List.mem_cons_self) hk
  have hini' : (Cond.initialized cls).before args s' = true := vx_ot_at hW0 hvm.symm (hgood _ (List.mem_cons_of_mem _ List.mem_cons_self)) hini
  have hU' : vx_Zq Bundle.tN "UNASSIGNED_STACK" Bundle.steD A s' s'.heap := by rw [hhp]; exact vx_Zq.moved hW0.alike (hU.kept hS.2.1)
  have hN' : vx_Zq Bundle.tN "SUPPRESSED_SENTINEL" Bundle.listD A s' s'.heap := by rw [hhp]; exact vx_Zq.moved hW0.alike (hN.kept hS.2.1)
  have h : ∀ w ∈ Bundle.ownAtoms0 own ic cls names, w.before args s' = true := vx_own hat' (vx_isRefq hU'.1) (vx_isRefq hN'.1) hU'.2.word hN'.2.word
  have hown' : s'.vm.findClass own = some m.cls := by rw [hvm]; exact hown
  have hins : (Cond.instantiable cls 6).before args s' = true := h _ (by simp [Bundle.ownAtoms0])
  obtain ⟨vm₁, cX, kX, hfX, hkX, -, -, X₁, st1⟩ := Y.newCold hexec (own := own) (C := cls) (index := ik) (n := 6) hown' hk' hins hini'
    (g := F0 m pc ls rest) rfl (by rw [hb]; exact d0) (Nat.le_refl _) (Nat.le_refl _)
  generalize hT1 : (T.setVm vm₁).pushCell { cls := cX, slots := kX.instanceTypes.map defaultValue, vm := .none } = T1 at X₁ st1
  have hcat : (Value.ref T.heap.size).category = 1 := rfl
  have hcellA : T1.heap[T.heap.size]? = some (freshCell cX kX) := by rw [← hT1]; exact State.heap_pushCell_size _ _
  have d3' : decode c.code (pc + 3) = .ok (.dup, 1) := by rw [hb]; exact d3
  obtain ⟨U, hsteps, hrun, hend, hW, hsame, ce, hce, hO⟩ := X₁.ctorThrow0 hexec htr (own := own) (cls := cls) (names := names) (ic := ic) hown' hcls hnames h (fun x hx => nomatch hx) hfX hkX hcellA (by rw [hhp, hT]; exact Nat.le_refl _)
    (g := { method := m, pc := pc + 4, locals := ls, stack := .ref T.heap.size :: .ref T.heap.size :: rest, locked := none }) rfl hsize rfl rfl (rest := rest) rfl
    (by rw [hb]; exact d4) (by rw [hb]; exact d7) hout hRframes (by simp only [List.map_cons, List.sum_cons, hcat]; omega) hlocks
  obtain ⟨f1, f2⟩ := vx_frame hsame
  rw [hhp] at f1 f2
  have hWs : s.WarmedH U.vm := State.WarmedH.trans hW0 hW
  have hcl : s.vm.findClass cls = some ce.cls := by
    have h9 := hO.cls
    rw [hvm] at h9
    exact h9
  have hall : s.sameButNew ({ U with vm := s.vm } : State) locs mc ms := by
    subst hA
    obtain ⟨e1, e2⟩ := hsame
    rw [State.setFrames_setFrames] at e1
    have h2 : (T.setVm s.vm).sameButNew ({ U with vm := s.vm } : State) [] (0 + 1) (0 + 6) := ⟨e1, e2⟩
    have h3 := X.same.trans h2
    rw [List.append_nil] at h3
    exact h3.mono hc hs
  refine ⟨U, ?_, .threw T.heap.size, hrun, hend, Or.inr ⟨T.heap.size, rfl, cls, ce, locs, hx U hWs.alike f1 (fun q hq => f2 q hq (fun z hz => nomatch hz)), hce, hO.vm, hcl, hWs, hall, hf⟩⟩
  refine st1 _ ?_
  show Steps p.tables e below (T1.setTop { method := m, pc := pc + 3, locals := ls, stack := .ref T.heap.size :: rest, locked := none }) _
  jvm_step X₁.here [X₁.here.top, hexec, d3', Value.category]
  exact hsteps
/-- 'throw new E("text")': new; dup; ldc; invokespecial; athrow -/
theorem vx_throwS {cc : ByteArray} {pc : Nat} (hexec : p.tables.exec = Jvm.exec) (hb : c.code = cc) (hl : l.stackTraces = false) {own cls text : String} {names : List String} {ik is ic mc ms sa : Nat} {A : Nat → Prop}
    (hown : s.vm.findClass own = some m.cls) (hcls : Bundle.fit cls = true) (hnames : ∀ n ∈ names, Bundle.fit n = true)
    (hk : (Cond.classLink own ik cls).before args s = true) (hini : (Cond.initialized cls).before args s = true) (hstr : vk_R own is text sa s) (hat : ∀ w ∈ vx_atS own ic cls names, w.before args s = true)
    (hgood : ∀ w ∈ Cond.classLink own ik cls :: Cond.initialized cls :: vx_atS own ic cls names, vx_ot w = true)
    (hU : vx_Zq Bundle.tN "UNASSIGNED_STACK" Bundle.steD A s s.heap) (hN : vx_Zq Bundle.tN "SUPPRESSED_SENTINEL" Bundle.listD A s s.heap) (hS : va_S A s.heap H locs) (hsize : ls.size = c.maxLocals)
    (d0 : decode cc pc = .ok (.new ik, 3)) (d3 : decode cc (pc + 3) = .ok (.dup, 1)) (d4 : decode cc (pc + 4) = .ok (.ldc is, 2)) (d6 : decode cc (pc + 6) = .ok (.invokespecial ic, 3)) (d9 : decode cc (pc + 9) = .ok (.athrow, 1))
    (hout : ∀ x ∈ c.exceptionTable.toList, covers x (pc + 9) = false)
    (hRframes : names.length + 3 < R.frames) (hRlocals : (rest.map fun v => v.category).sum + (13 * (names.length + 1) + 43) ≤ R.locals) (hRcells : cells + 1 ≤ R.cells) (hRslots : slots + 6 ≤ R.slots) (hlocks : meth.locks = false)
    (hx : ∀ t : State, s.vm.Alike t.vm → H.size ≤ t.heap.size → (∀ q : Nat, q < H.size → t.heap[q]? = H[q]?) → XC cls s t)
    (hf : ∀ z ∈ locs, free z.base) (hc : cells + 1 ≤ mc) (hs : slots + 6 ≤ ms) :
    W p l e R s m args below meth c H locs cells slots (vx_MQ below Qc XC args s mc ms free) (F0 m pc ls rest) := by
  intro T hT X
  have htr : e.platform.stackTraces = false := (show e.platform.stackTraces = l.stackTraces by rw [X.admits.platform]).trans hl
  have Y := vx_rebase X (R' := { frames := R.frames, locals := R.locals, cells := 1, slots := 6 }) (Nat.le_refl _) (Nat.le_refl _) hRcells hRslots
  obtain ⟨s', hA⟩ : ∃ z, z = (T.setVm s.vm).setFrames (.invoking m args :: below) := ⟨_, rfl⟩
  rw [← hA] at Y
  have hvm : s'.vm = s.vm := by rw [hA]; rfl
  have hhp : s'.heap = H := by rw [hA]; exact hT
  have hW0 : s.WarmedH s'.vm := by rw [hvm]; exact State.WarmedH.refl s
  have hat' : ∀ w ∈ vx_atS own ic cls names, w.before args s' = true := fun w hw => vx_ot_at hW0 hvm.symm (hgood w (List.mem_cons_of_mem _ (List.mem_cons_of_mem _ hw))) (hat w hw)
  have hk' : (Cond.classLink own ik cls).before args s' = true := vx_ot_at hW0 hvm.symm (hgood _ List.mem_cons_self) hk
  have hini' : (Cond.initialized cls).before args s' = true := vx_ot_at hW0 hvm.symm (hgood _ (List.mem_cons_of_mem _ List.mem_cons_self)) hini
  have hU' : vx_Zq Bundle.tN "UNASSIGNED_STACK" Bundle.steD A s' s'.heap := by rw [hhp]; exact vx_Zq.moved hW0.alike (hU.kept hS.2.1)
  have hN' : vx_Zq Bundle.tN "SUPPRESSED_SENTINEL" Bundle.listD A s' s'.heap := by rw [hhp]; exact vx_Zq.moved hW0.alike (hN.kept hS.2.1)
  have h : ∀ w ∈ Bundle.ownAtoms own ic cls names, w.before args s' = true := vx_own hat' (vx_isRefq hU'.1) (vx_isRefq hN'.1) hU'.2.word hN'.2.word
  have hown' : s'.vm.findClass own = some m.cls := by rw [hvm]; exact hown
  have hins : (Cond.instantiable cls 6).before args s' = true := h _ (by simp [Bundle.ownAtoms])
  obtain ⟨vm₁, cX, kX, hfX, hkX, -, -, X₁, st1⟩ := Y.newCold hexec (own := own) (C := cls) (index := ik) (n := 6) hown' hk' hins hini'
    (g := F0 m pc ls rest) rfl (by rw [hb]; exact d0) (Nat.le_refl _) (Nat.le_refl _)
  generalize hT1 : (T.setVm vm₁).pushCell { cls := cX, slots := kX.instanceTypes.map defaultValue, vm := .none } = T1 at X₁ st1
  have hcat : (Value.ref T.heap.size).category = 1 := rfl
  have hcellA : T1.heap[T.heap.size]? = some (freshCell cX kX) := by rw [← hT1]; exact State.heap_pushCell_size _ _
  have d3' : decode c.code (pc + 3) = .ok (.dup, 1) := by rw [hb]; exact d3
  have d4' : decode c.code (pc + 4) = .ok (.ldc is, 2) := by rw [hb]; exact d4
  have hstr' : vk_R own is text sa s' := vk_R.warm hW0 hstr
  obtain ⟨U, hsteps, hrun, hend, hW, hsame, ce, hce, hO⟩ := X₁.ctorThrowS hexec htr (own := own) (cls := cls) (names := names) (ic := ic) hown' hcls hnames h (fun x hx => nomatch hx) hfX hkX hcellA (by rw [hhp, hT]; exact Nat.le_refl _) (msg := .ref sa) rfl
    (g := { method := m, pc := pc + 6, locals := ls, stack := .ref sa :: .ref T.heap.size :: .ref T.heap.size :: rest, locked := none }) rfl hsize rfl rfl (rest := rest) rfl
    (by rw [hb]; exact d6) (by rw [hb]; exact d9) hout hRframes (by simp only [List.map_cons, List.sum_cons, hcat]; omega) hlocks
  obtain ⟨f1, f2⟩ := vx_frame hsame
  rw [hhp] at f1 f2
  have hWs : s.WarmedH U.vm := State.WarmedH.trans hW0 hW
  have hcl : s.vm.findClass cls = some ce.cls := by
    have h9 := hO.cls
    rw [hvm] at h9
    exact h9
  have hall : s.sameButNew ({ U with vm := s.vm } : State) locs mc ms := by
    subst hA
    obtain ⟨e1, e2⟩ := hsame
    rw [State.setFrames_setFrames] at e1
    have h2 : (T.setVm s.vm).sameButNew ({ U with vm := s.vm } : State) [] (0 + 1) (0 + 6) := ⟨e1, e2⟩
    have h3 := X.same.trans h2
    rw [List.append_nil] at h3
    exact h3.mono hc hs
  refine ⟨U, ?_, .threw T.heap.size, hrun, hend, Or.inr ⟨T.heap.size, rfl, cls, ce, locs, hx U hWs.alike f1 (fun q hq => f2 q hq (fun z hz => nomatch hz)), hce, hO.vm, hcl, hWs, hall, hf⟩⟩
  refine st1 _ ?_
  show Steps p.tables e below (T1.setTop { method := m, pc := pc + 3, locals := ls, stack := .ref T.heap.size :: rest, locked := none }) _
  jvm_step X₁.here [X₁.here.top, hexec, d3', Value.category]
  exact X₁.ldcString hexec (own := own) (text := text) (index := is) (a := sa) hown' hstr'.1 hstr'.2
    (g := { method := m, pc := pc + 4, locals := ls, stack := .ref T.heap.size :: .ref T.heap.size :: rest, locked := none }) rfl d4' _ hsteps
/-- 'throw new E("text")', the text by a wide index -/
theorem vx_throwSW {cc : ByteArray} {pc : Nat} (hexec : p.tables.exec = Jvm.exec) (hb : c.code = cc) (hl : l.stackTraces = false) {own cls text : String} {names : List String} {ik is ic mc ms sa : Nat} {A : Nat → Prop}
    (hown : s.vm.findClass own = some m.cls) (hcls : Bundle.fit cls = true) (hnames : ∀ n ∈ names, Bundle.fit n = true)
    (hk : (Cond.classLink own ik cls).before args s = true) (hini : (Cond.initialized cls).before args s = true) (hstr : vk_R own is text sa s) (hat : ∀ w ∈ vx_atS own ic cls names, w.before args s = true)
    (hgood : ∀ w ∈ Cond.classLink own ik cls :: Cond.initialized cls :: vx_atS own ic cls names, vx_ot w = true)
    (hU : vx_Zq Bundle.tN "UNASSIGNED_STACK" Bundle.steD A s s.heap) (hN : vx_Zq Bundle.tN "SUPPRESSED_SENTINEL" Bundle.listD A s s.heap) (hS : va_S A s.heap H locs) (hsize : ls.size = c.maxLocals)
    (d0 : decode cc pc = .ok (.new ik, 3)) (d3 : decode cc (pc + 3) = .ok (.dup, 1)) (d4 : decode cc (pc + 4) = .ok (.ldc_w is, 3)) (d7 : decode cc (pc + 7) = .ok (.invokespecial ic, 3)) (d10 : decode cc (pc + 10) = .ok (.athrow, 1))
    (hout : ∀ x ∈ c.exceptionTable.toList, covers x (pc + 10) = false)
    (hRframes : names.length + 3 < R.frames) (hRlocals : (rest.map fun v => v.category).sum + (13 * (names.length + 1) + 43) ≤ R.locals) (hRcells : cells + 1 ≤ R.cells) (hRslots : slots + 6 ≤ R.slots) (hlocks : meth.locks = false)
    (hx : ∀ t : State, s.vm.Alike t.vm → H.size ≤ t.heap.size → (∀ q : Nat, q < H.size → t.heap[q]? = H[q]?) → XC cls s t)
    (hf : ∀ z ∈ locs, free z.base) (hc : cells + 1 ≤ mc) (hs : slots + 6 ≤ ms) :
    W p l e R s m args below meth c H locs cells slots (vx_MQ below Qc XC args s mc ms free) (F0 m pc ls rest) := by
  intro T hT X
  have htr : e.platform.stackTraces = false := (show e.platform.stackTraces = l.stackTraces by rw [X.admits.platform]).trans hl
  have Y := vx_rebase X (R' := { frames := R.frames, locals := R.locals, cells := 1, slots := 6 }) (Nat.le_refl _) (Nat.le_refl _) hRcells hRslots
  obtain ⟨s', hA⟩ : ∃ z, z = (T.setVm s.vm).setFrames (.invoking m args :: below) := ⟨_, rfl⟩
  rw [← hA] at Y
  have hvm : s'.vm = s.vm := by rw [hA]; rfl
  have hhp : s'.heap = H := by rw [hA]; exact hT
  have hW0 : s.WarmedH s'.vm := by rw [hvm]; exact State.WarmedH.refl s
  have hat' : ∀ w ∈ vx_atS own ic cls names, w.before args s' = true := fun w hw => vx_ot_at hW0 hvm.symm (hgood w (List.mem_cons_of_mem _ (List.mem_cons_of_mem _ hw))) (hat w hw)
  have hk' : (Cond.classLink own ik cls).before args s' = true := vx_ot_at hW0 hvm.symm (hgood _ List.mem_cons_self) hk
  have hini' : (Cond.initialized cls).before args s' = true := vx_ot_at hW0 hvm.symm (hgood _ (List.mem_cons_of_mem _ List.mem_cons_self)) hini
  have hU' : vx_Zq Bundle.tN "UNASSIGNED_STACK" Bundle.steD A s' s'.heap := by rw [hhp]; exact vx_Zq.moved hW0.alike (hU.kept hS.2.1)
  have hN' : vx_Zq Bundle.tN "SUPPRESSED_SENTINEL" Bundle.listD A s' s'.heap := by rw [hhp]; exact vx_Zq.moved hW0.alike (hN.kept hS.2.1)
  have h : ∀ w ∈ Bundle.ownAtoms own ic cls names, w.before args s' = true := vx_own hat' (vx_isRefq hU'.1) (vx_isRefq hN'.1) hU'.2.word hN'.2.word
  have hown' : s'.vm.findClass own = some m.cls := by rw [hvm]; exact hown
  have hins : (Cond.instantiable cls 6).before args s' = true := h _ (by simp [Bundle.ownAtoms])
  obtain ⟨vm₁, cX, kX, hfX, hkX, -, -, X₁, st1⟩ := Y.newCold hexec (own := own) (C := cls) (index := ik) (n := 6) hown' hk' hins hini'
    (g := F0 m pc ls rest) rfl (by rw [hb]; exact d0) (Nat.le_refl _) (Nat.le_refl _)
  generalize hT1 : (T.setVm vm₁).pushCell { cls := cX, slots := kX.instanceTypes.map defaultValue, vm := .none } = T1 at X₁ st1
  have hcat : (Value.ref T.heap.size).category = 1 := rfl
  have hcellA : T1.heap[T.heap.size]? = some (freshCell cX kX) := by rw [← hT1]; exact State.heap_pushCell_size _ _
  have d3' : decode c.code (pc + 3) = .ok (.dup, 1) := by rw [hb]; exact d3
  have d4' : decode c.code (pc + 4) = .ok (.ldc_w is, 3) := by rw [hb]; exact d4
  have hstr' : vk_R own is text sa s' := vk_R.warm hW0 hstr
  obtain ⟨U, hsteps, hrun, hend, hW, hsame, ce, hce, hO⟩ := X₁.ctorThrowS hexec htr (own := own) (cls := cls) (names := names) (ic := ic) hown' hcls hnames h (fun x hx => nomatch hx) hfX hkX hcellA (by rw [hhp, hT]; exact Nat.le_refl _) (msg := .ref sa) rfl
    (g := { method := m, pc := pc + 7, locals := ls, stack := .ref sa :: .ref T.heap.size :: .ref T.heap.size :: rest, locked := none }) rfl hsize rfl rfl (rest := rest) rfl
    (by rw [hb]; exact d7) (by rw [hb]; exact d10) hout hRframes (by simp only [List.map_cons, List.sum_cons, hcat]; omega) hlocks
  obtain ⟨f1, f2⟩ := vx_frame hsame
  rw [hhp] at f1 f2
  have hWs : s.WarmedH U.vm := State.WarmedH.trans hW0 hW
  have hcl : s.vm.findClass cls = some ce.cls := by
    have h9 := hO.cls
    rw [hvm] at h9
    exact h9
  have hall : s.sameButNew ({ U with vm := s.vm } : State) locs mc ms := by
    subst hA
    obtain ⟨e1, e2⟩ := hsame
    rw [State.setFrames_setFrames] at e1
    have h2 : (T.setVm s.vm).sameButNew ({ U with vm := s.vm } : State) [] (0 + 1) (0 + 6) := ⟨e1, e2⟩
    have h3 := X.same.trans h2
    rw [List.append_nil] at h3
    exact h3.mono hc hs
  refine ⟨U, ?_, .threw T.heap.size, hrun, hend, Or.inr ⟨T.heap.size, rfl, cls, ce, locs, hx U hWs.alike f1 (fun q hq => f2 q hq (fun z hz => nomatch hz)), hce, hO.vm, hcl, hWs, hall, hf⟩⟩
  refine st1 _ ?_
  show Steps p.tables e below (T1.setTop { method := m, pc := pc + 3, locals := ls, stack := .ref T.heap.size :: rest, locked := none }) _
  jvm_step X₁.here [X₁.here.top, hexec, d3', Value.category]
  exact X₁.ldcStringW hexec (own := own) (text := text) (index := is) (a := sa) hown' hstr'.1 hstr'.2
    (g := { method := m, pc := pc + 4, locals := ls, stack := .ref T.heap.size :: .ref T.heap.size :: rest, locked := none }) rfl d4' _ hsteps
end Ends
section Bodies
variable {l : Launch}
theorem vx_ofW {y : MethodName} {ws ws' : List Cond} {rm : Room} {Pc : Array Value → State → Prop} {Qc : Array Value → State → Outcome → State → Prop} {XC : String → State → State → Prop} {mc ms : Nat} {free : Addr → Prop} {cc : ByteArray} {maxL : Nat} {ret : Option FieldType}
    (hy : plainName y.cls = true) (hw : ws = Cond.code y cc maxL ret :: ws')
    (body : ∀ p e s m args below meth c s₁, BodyLoose p l y (headSpec ws rm) cc maxL ret e s m args below meth c s₁ → c.maxLocals = maxL → (∀ x ∈ c.exceptionTable.toList, False) → Pc args s →
      W p l e (headSpec ws rm).room s m args below meth c s.heap [] 0 0 (vx_MQ below Qc XC args s mc ms free) (entryFrame m args maxL)) : vx_Met l y ws rm Pc Qc XC mc ms free := by
  refine MetFree.of_bodyS (code := cc) (maxLocals := maxL) (ret := ret) hy ?_ ?_
  · intro args s m h hn
    obtain ⟨meth, c, h1, h2, h3, h4, h5, h6, -, -⟩ := Cond.code_spec hn (atoms_spec (ws := ws) h _ (by rw [hw]; exact List.mem_cons_self))
    exact ⟨meth, c, h1, h2, h3, h4, h5, h6⟩
  · intro p e s m args below meth c s₁ B hml hP _
    have hh0 : s₁.heap = s.heap := by rw [B.state]; rfl
    have ht : ∀ x ∈ c.exceptionTable.toList, False := by
      obtain ⟨meth9, c9, h1, h2, -, -, -, -, h7, -⟩ := Cond.code_spec B.named (atoms_spec (ws := ws) B.pre _ (by rw [hw]; exact List.mem_cons_self))
      cases Option.some.inj (h1.symm.trans B.method)
      cases Option.some.inj (h2.symm.trans (Stand.of_body B).code)
      intro x hx
      rw [Array.isEmpty_iff.mp h7] at hx
      cases hx
    obtain ⟨t, a1, o, b1, b2, b3⟩ := body p e s m args below meth c s₁ B hml ht hP s₁ hh0 (Stand.of_body B)
    exact ⟨t, o, a1, b1, b2, b3⟩
/-- the table of a body with handlers -/
theorem vx_table {p : Program} {x y : MethodName} {S : Spec} {cc bytes : ByteArray} {maxL maxL' : Nat} {ret ret' : Option FieldType} {e : Env} {s s₁ : State} {m : MethodId} {args : Array Value} {below : List Frame} {meth : Method} {c : Code} {hh : List (Nat × Nat × Nat × Nat)}
    (B : BodyLoose p l y S cc maxL ret e s m args below meth c s₁) (h : (Cond.codeWith y bytes maxL' ret' hh).before args s = true) : c.exceptionTable.toList = tableOf hh := by
  obtain ⟨m9, meth9, c9, hn9, h1, h2, -, -, h6, -⟩ := Cond.codeWith_spec h
  cases Option.some.inj (hn9.symm.trans B.named)
  cases Option.some.inj (h1.symm.trans B.method)
  cases Option.some.inj (h2.symm.trans (Stand.of_body B).code)
  rw [← h6, table_eq]
end Bodies
end VXA
/-! ===== END ===== -/
/-! ===== BEGIN a static call of a method with an exception table ===== -/
section VXS
variable {p : Program} {l : Launch} {e : Env} {R : Room} {s : State} {m : MethodId} {args : Array Value} {below : List Frame} {meth : Method} {c : Code} {T : State} {H : Heap} {locs : List Loc} {cells slots : Nat}
abbrev vx_CSW (R : Room) (s : State) (args : Array Value) (own : String) (index : Nat) (y : MethodName) (bytes : ByteArray) (maxL : Nat) (ret : Option FieldType) (hh : List (Nat × Nat × Nat × Nat)) (ws : List Cond) (rm : Room) (mc ms n : Nat) : Prop :=
  (rm.cells = mc ∧ rm.slots = ms ∧ rm.frames + 1 ≤ R.frames ∧ 8 + (maxL + 11) + rm.locals ≤ R.locals ∧ (∀ w ∈ ws, ∀ (a' : Array Value) (U : State), s.WarmedH U.vm → w.before a' U = true) ∧ Cond.codeWith y bytes maxL ret hh ∈ ws) ∧
  (Cond.codeWith y bytes maxL ret hh).before args s = true ∧ (Cond.initialized y.cls).before args s = true ∧ (y.cls ≠ "java/lang/invoke/MethodHandle" ∧ y.cls ≠ "java/lang/invoke/VarHandle") ∧
  (∀ sig, parseMethodDescriptor y.desc = some sig → n = sig.parameters.length) ∧ (Cond.methodLink own index y).before args s = true ∧ (Cond.static y).before args s = true
theorem vx_cwSW {own : String} {index maxL mc ms : Nat} {y : MethodName} {bytes : ByteArray} {ret : Option FieldType} {hh : List (Nat × Nat × Nat × Nat)} {Ts ws ws' : List Cond} {rm : Room} (n : Nat) (ht : ∀ w ∈ Ts, w.before args s = true) (hT : GoodIn Ts (va_wsS own index y ws)) (hw : ws = Cond.codeWith y bytes maxL ret hh :: ws') (hrc : rm.cells = mc) (hrs : rm.slots = ms)
    (hd : y.cls ≠ "java/lang/invoke/MethodHandle" ∧ y.cls ≠ "java/lang/invoke/VarHandle" ∧ (parseMethodDescriptor y.desc).map (fun d => d.parameters.length) = some n) (hR : rm.frames + 1 ≤ R.frames ∧ 8 + (maxL + 11) + rm.locals ≤ R.locals) :
    vx_CSW R s args own index y bytes maxL ret hh ws rm mc ms n := by
  have ok : ∀ w ∈ va_wsS own index y ws, w.before args s = true := fun w h => ht w (hT w h).1
  have hG : GoodIn Ts ws := fun w h => hT w (by unfold va_wsS; exact List.mem_append_right _ h)
  have hc : Cond.codeWith y bytes maxL ret hh ∈ ws := by rw [hw]; exact List.mem_cons_self
  refine ⟨⟨hrc, hrs, hR.1, hR.2, pay_in ht hG, hc⟩, ht _ (hG _ hc).1, ok _ (by simp [va_wsS]), ⟨hd.1, hd.2.1⟩, fun sig h => ?_, ok _ (by simp [va_wsS]), ok _ (by simp [va_wsS])⟩
  have h2 := hd.2.2
  rw [h] at h2
  exact (Option.some.inj h2).symm
theorem vx_callSW (X : Stand p l e R s m args below meth c T locs cells slots) (hexec : p.tables.exec = Jvm.exec) {own : String} {index : Nat} {y : MethodName} {bytes : ByteArray} {maxL : Nat} {ret : Option FieldType} {hh : List (Nat × Nat × Nat × Nat)}
    (hown : s.vm.findClass own = some m.cls) (hlink : (Cond.methodLink own index y).before args s = true) (hstat : (Cond.static y).before args s = true) (hinit : (Cond.initialized y.cls).before args s = true)
    (hcode : (Cond.codeWith y bytes maxL ret hh).before args s = true) (hy : y.cls ≠ "java/lang/invoke/MethodHandle" ∧ y.cls ≠ "java/lang/invoke/VarHandle")
    {W9 : Nat} {Pre : Pt → Array Value → Prop} {Post : Pt → Array Value → Option Value → Pt → Prop} (hK : Back l R p e below s args y 3 W9 Pre Post)
    {g : JFrame} (hg : g.method = m) (hsize : g.locals.size = c.maxLocals) {argsL rest : List Value} (hlen : ∀ sig, parseMethodDescriptor y.desc = some sig → argsL.length = sig.parameters.length)
    (hstack : g.stack = argsL.reverse ++ rest) (hW : 2 * g.monitorRoom + (rest.map fun v => v.category).sum ≤ W9) (hdg : decode c.code g.pc = .ok (.invokestatic index, 3))
    (hpre : ∀ vm₁, s.WarmedH vm₁ → Pre ⟨T.setVm vm₁, locs, cells, slots⟩ argsL.toArray) :
    ∃ (v : Option Value) (vm₁ : Vm) (B : Pt), s.WarmedH vm₁ ∧ Stand p l e R s m args below meth c B.U B.locs B.cells B.slots ∧ Post ⟨T.setVm vm₁, locs, cells, slots⟩ argsL.toArray v B ∧
      ∀ target, Steps p.tables e below (B.U.setTop { g with pc := g.pc + 3, stack := v.toList ++ rest }) target → Steps p.tables e below (T.setTop g) target := by
  obtain ⟨mk, methM, cM, hnamed, hmethM, -, -, -, -, -, -, hsigM⟩ := Cond.codeWith_spec hcode
  have hstatic : methM.isStatic = true := Cond.static_spec hnamed hmethM hstat
  obtain ⟨kP, hkP, -⟩ := className_of_methodNamed hnamed
  have hinitP : kP.init = .initialized := Cond.initialized_spec (findClass_of_methodNamed hnamed) hkP hinit
  obtain ⟨vm₁, X₁, hstep₁⟩ := X.invokestatic hexec hown hlink hnamed hmethM hstatic hkP hinitP hy (g := g) hg (argsL := argsL) (rest := rest) (hlen _ hsigM) hstack hdg
  obtain ⟨v, B, X', hpost, hsteps⟩ := hK m meth c ⟨T.setVm vm₁, locs, cells, slots⟩ { g with stack := rest } (.invokestatic index) mk argsL.toArray X₁ hg hsize hdg hW (X₁.named hnamed) (hpre vm₁ X₁.warmed)
  exact ⟨v, vm₁, B, X₁.warmed, X', hpost, fun target h => hstep₁ _ fun acts => by rw [doInvoke_state]; exact hsteps.trans h⟩
theorem vx_runSW {y : MethodName} {bytes cc : ByteArray} {maxL nL mc ms n index : Nat} {ret : Option FieldType} {hh : List (Nat × Nat × Nat × Nat)} {ws : List Cond} {rm : Room} {Pc : Array Value → State → Prop} {Qc : Array Value → State → Outcome → State → Prop} {free : Addr → Prop} {Ts : List Cond} {own : String} {As rest : List Value} {g : JFrame}
    (S : CallFix p m c cc nL s args Ts own) (hM : Met l y ws rm Pc Qc mc ms free) (cw : vx_CSW R s args own index y bytes maxL ret hh ws rm mc ms n) (hp : PreS s H Pc As)
    (hg : g.method = m) (hn : As.length = n) (hsize : g.locals.size = nL) (hstack : g.stack = As.reverse ++ rest) (hW : 2 * g.monitorRoom + (rest.map fun v => v.category).sum ≤ 8) (hdg : decode cc g.pc = .ok (.invokestatic index, 3)) (hf : cells + mc ≤ R.cells ∧ slots + ms ≤ R.slots) :
    va_Run p l e R s m args below meth c H locs cells slots mc ms g rest (Qc As.toArray) (free) := by
  obtain ⟨⟨hrc, hrs, hfr, hlo, hws, hcw⟩, hcode, hini, hy, hlen, hl, hstt⟩ := cw
  have hK : Back l R p e below s args y 3 8 (PreOf R mc ms Pc) (PostOf Qc mc ms free) := va_backW (hh := hh) (bytes := bytes) (maxL := maxL) (ret := ret) hM hp.1 hrc hrs hfr hlo hws hcw (fun a' U hW => word_at hW (Or.inl (by first | rfl | simp [Cond.onTables, Cond.keeps, Cond.steady])) hini)
  obtain ⟨hx, hb, hml, ho, -⟩ := S
  intro T hT X
  obtain ⟨v, vm₁, ⟨U', l2, c2, s2⟩, hW₁, X', ⟨g', mk, t, L, e1, e2, hq, h1, hL, h2, h3⟩, st⟩ := vx_callSW X hx (hh := hh) (bytes := bytes) (maxL := maxL) (ret := ret) ho hl hstt hini hcode hy hK hg (hsize.trans hml.symm) (argsL := As) (rest := rest) (fun sig h => hn.trans (hlen sig h)) hstack hW (by rw [hb]; exact hdg)
    (fun vm₁ hW₁ => ⟨hf.1, hf.2, hp.2 (T.setVm vm₁) hT hW₁⟩)
  dsimp only [Pt.U, Pt.locs, Pt.cells, Pt.slots] at X' e1 e2 h1 h2 h3 st
  subst h1; subst h2; subst h3
  exact ⟨v, (T.setVm vm₁).calling g' mk As.toArray, t, U', L, hT, X', hL, e1, e2, hq, st⟩
/-- not caught here, past rows that name other classes: it goes on to the caller -/
theorem vx_outP {p : Program} {l : Launch} {e : Env} {R : Room} {s : State} {m : MethodId} {args : Array Value} {below : List Frame} {meth : Method} {c : Code} {H : Heap} {locs : List Loc} {cells slots : Nat} {free : Addr → Prop} {ls : Array Slot} {rest : List Value} {Qc : Array Value → State → Outcome → State → Prop} {XC : String → State → State → Prop}
    {pc : Nat} {own E : String} {ce : Cell} {q : Addr} {mc ms : Nat} (hown : s.vm.findClass own = some m.cls) (hlocks : meth.locks = false)
    (hpass : ∀ z ∈ c.exceptionTable.toList, covers z pc = false ∨ (z.catchType ≠ 0 ∧ ∃ nm : String, (Cond.classLink own z.catchType nm).before args s = true ∧ va_Nc E nm s)) (hcell : H[q]? = some ce) (hv : ce.vm = .none) (hcl : s.vm.findClass E = some ce.cls)
    (hx : ∀ t : State, t.heap = H → s.vm.Alike t.vm → XC E s t) (hf : ∀ z ∈ locs, free z.base) (hc : cells ≤ mc) (hs : slots ≤ ms) :
    vx_W p l e R s m args below meth c H locs cells slots (vx_MQ below Qc XC args s mc ms free) (F0 m pc ls rest) q := by
  intro T hT X
  have hpl : e.platform.magicAccessors = ({} : Platform).magicAccessors := by rw [X.admits.platform]
  obtain ⟨vm', hW', X', st⟩ := X.outThrough hlocks q (g := F0 m pc ls rest) rfl rfl rfl (cell := ce) (by rw [hT]; exact hcell) (by rw [hv]; rfl)
    (by obtain ⟨k9, h9, -⟩ := Vm.findClass_spec hcl; exact ⟨k9, h9⟩) (fun z hz => by
      rcases hpass z hz with h | ⟨hz0, nm, hl1, hn1⟩
      · exact Or.inl h
      · obtain ⟨c6, hc6, hcl6⟩ := Cond.classLink_spec hown hl1 e.platform hpl
        obtain ⟨a8, b8, h1, h2, h3⟩ := hn1
        cases Option.some.inj (h1.symm.trans hcl)
        cases Option.some.inj (h2.symm.trans hc6)
        exact Or.inr ⟨hz0, _, hcl6, h3⟩)
  obtain ⟨g₀, hfr⟩ := X'.frames_eq
  have hcell9 : ((T.setVm vm').setFrames (.throwing q :: below)).heap[q]? = some ce := by
    show T.heap[q]? = some ce
    rw [hT]; exact hcell
  have hend : Ended ((T.setVm vm').setFrames (.throwing q :: below)) below (.threw q) := State.frames_setFrames _ (State.cur_lt_of_frames hfr)
  refine ⟨(T.setVm vm').setFrames (.throwing q :: below), ?_, .threw q, X'.here.running, hend, Or.inr ⟨q, rfl, E, ce, locs, hx _ hT (X'.ends _).1.alike, hcell9, hv, hcl, (X'.ends _).1, (X'.ends _).2.mono hc hs, hf⟩⟩
  rw [X.pushThrowing_eq]
  exact st
/-- a thing of a world lies in the heap -/
theorem vx_lt {D : va_G} {cl : List vw_C} {ws : va_W} {H1 : Heap} (h : va_P D cl ws H1) {k : Nat} {q : Nat × va_E} (hk : ws[k]? = some q) : q.1 < H1.size := (h k q hk).lt
end VXS
/-! ===== END ===== -/
/-! ===== BEGIN methods with a table of their own: called by a name, returning or throwing ===== -/
section VXH
/-! vx_backW, vx_callVX, vx_callSX, vx_callVW, vx_runVW, vx_runVX, vx_runSX, vx_ofWH follow the same proofs as their sisters above (Free/Laws.lean, Shelf42/LK1.lean); vx_outP calls Shelf42/NT130.lean (outThrough). -/
section
variable {l : Launch} {R : Room} {p : Program} {e : Env} {below : List Frame} {s : State} {sargs : Array Value} {y : MethodName} {len W9 : Nat}
theorem vx_backW {ws : List Cond} {rm : Room} {Pc : Array Value → State → Prop} {Qc : Array Value → State → Outcome → State → Prop} {XC : String → State → State → Prop} {mc ms : Nat} {free : Addr → Prop} {bytes : ByteArray} {maxL : Nat} {ret : Option FieldType} {hh : List (Nat × Nat × Nat × Nat)}
    (hM : vx_Met l y ws rm Pc Qc XC mc ms free) (hblind : FrameBlind Pc) (hrc : rm.cells = mc) (hrs : rm.slots = ms)
    (hframes : rm.frames + 1 ≤ R.frames) (hlocals : W9 + (maxL + 11) + rm.locals ≤ R.locals)
    (hws : ∀ w ∈ ws, ∀ a' U, s.WarmedH U.vm → w.before a' U = true) (hcode : Cond.codeWith y bytes maxL ret hh ∈ ws) (hinit : ∀ a' U, s.WarmedH U.vm → (Cond.initialized y.cls).before a' U = true) :
    vx_Back l R p e below s sargs y len W9 (PreOf R mc ms Pc) (PostOf Qc mc ms free) (vx_Post XC mc ms free) := by
  intro m meth c A g ig mk a X hg hsize hdg hW hn hp
  have h1 : (headSpec ws rm).pre.before a A.U = true := atoms_intro fun w hw => hws w hw _ _ X.warmed
  have h2 : (Cond.codeWith y bytes maxL ret hh).before a A.U = true := hws _ hcode _ _ X.warmed
  have h3 : (Cond.initialized y.cls).before a A.U = true := hinit _ _ X.warmed
  have h4 : A.cells + (headSpec ws rm).room.cells ≤ R.cells := by rw [show (headSpec ws rm).room.cells = mc from hrc]; exact hp.1
  have h5 : A.slots + (headSpec ws rm).room.slots ≤ R.slots := by rw [show (headSpec ws rm).room.slots = ms from hrs]; exact hp.2.1
  have hPc : Pc a (A.U.calling g mk a) := hblind _ _ _ _ hp.2.2
  obtain ⟨U, Ls, c0, s0⟩ := A
  dsimp only [Pt.U, Pt.locs, Pt.cells, Pt.slots] at h1 h2 h3 h4 h5 X hn hPc ⊢
  obtain ⟨m9, methY, cY, hn9, hmY, hcY, -, hlY, -⟩ := Cond.codeWith_spec h2
  cases Option.some.inj (hn9.symm.trans hn)
  obtain ⟨kY, hkY, -⟩ := className_of_methodNamed hn
  have hinitY : kY.init = .initialized := Cond.initialized_spec (findClass_of_methodNamed hn) hkY h3
  have h : At U g.method c below := by rw [hg]; exact X.here
  have hlocals9 : W9 + (maxL + 11) + (headSpec ws rm).room.locals ≤ R.locals := hlocals
  have happ : (headSpec ws rm).appliesLoose y e.platform (U.calling g mk a) = true :=
    Spec.appliesLoose_calling (g := g) h hdg hn hkY hinitY
      (X.room_calling (g := g) (R' := (headSpec ws rm).room) hsize hmY hcY hframes (by rw [hlY]; omega) h4 h5) h1
  obtain ⟨mid, hmid⟩ := h.above
  have hfr : (U.setTop g).frames = (.java g :: mid) ++ below := by rw [State.frames_setTop' g h.top, hmid]; rfl
  obtain ⟨o, s₂, hsteps, -, hend, hq⟩ := Steps.callFree hM p X.admits X.cas X.clock (acts := []) hfr happ hPc trivial
  have hq' : vx_Q Qc XC mc ms free a (U.calling g mk a) o s₂ := hq
  rw [State.frames_setTop' g h.top] at hend
  obtain ⟨g₀, hg0⟩ := Option.isSome_iff_exists.mp h.top
  obtain ⟨r, hr⟩ := State.topJava?_eq_some.mp hg0
  have hr' : (({ U with heap := s₂.heap, slotsUsed := s₂.slotsUsed } : State).setVm s₂.vm).frames = .java g₀ :: r := hr
  rcases hq' with ⟨hqc, L, hfe, hL⟩ | ⟨q, rfl, E, ce, L, hx, hce, hcv, hcl, hW₂, hsm, hL⟩
  · obtain ⟨⟨v, rfl⟩, hW₂, e2, q2, q3, q4, q5, q6⟩ := id hfe
    have e3 : s₂ = ({ (U.calling g mk a).setFrames s₂.frames with heap := s₂.heap, slotsUsed := s₂.slotsUsed } : State).setVm s₂.vm := by
      have : s₂ = ({ s₂ with vm := (U.calling g mk a).vm } : State).setVm s₂.vm := rfl
      rw [e2] at this
      exact this
    obtain ⟨c₂, i₂, len₂, hc₂, hd₂, hf₂⟩ := hend
    have hW' : U.WarmedH s₂.vm := hW₂
    have hcc : c₂ = c := by
      have h1 : s₂.code? g.method = U.code? g.method := by
        rw [State.code?_eq, State.code?_eq, hW'.alike.method?]
      exact Option.some.inj (hc₂.symm.trans (h1.trans h.code))
    subst hcc
    have hlen : len₂ = len := by rw [hdg] at hd₂; cases hd₂; rfl
    subst hlen
    have hs₂ : s₂ = (({ U with heap := s₂.heap, slotsUsed := s₂.slotsUsed } : State).setVm s₂.vm).setTop { g with pc := g.pc + len₂, stack := v.toList ++ g.stack } := by
      refine e3.trans ?_
      rw [hf₂, State.calling_eq h.top, State.setFrames_setFrames, State.setTop_of_frames _ hr', hr]
      rfl
    have hsame : U.sameButNew ({ U with heap := s₂.heap, slotsUsed := s₂.slotsUsed } : State) L mc ms := by
      refine ⟨?_, q2, q3, q4, q5, q6⟩
      obtain ⟨t, ht, -⟩ := State.frames_cons hr
      show ({ U with heap := s₂.heap, slotsUsed := s₂.slotsUsed } : State) = { U.setFrames U.frames with heap := s₂.heap, slotsUsed := s₂.slotsUsed }
      rw [State.setFrames_self ht]
    subst hg
    refine Or.inl ⟨v, ⟨(({ U with heap := s₂.heap, slotsUsed := s₂.slotsUsed } : State).setVm s₂.vm), Ls ++ L, c0 + mc, s0 + ms⟩,
      ⟨X.admits, X.cas, X.clock, X.frames, X.room, X.hears, X.method, X.code, (X.here.setHeapUsed s₂.heap s₂.slotsUsed).setVm hW'.alike, X.tail, State.WarmedH.trans X.warmed hW', X.limits, X.bytes, X.same.trans (hsame.setVm s.vm)⟩,
      ⟨g, mk, s₂, L, rfl, rfl, hqc, rfl, hL, rfl, rfl⟩, ?_⟩
    show Steps p.tables e below _ ((({ U with heap := s₂.heap, slotsUsed := s₂.slotsUsed } : State).setVm s₂.vm).setTop { g with pc := g.pc + len₂, stack := v.toList ++ g.stack })
    rw [← hs₂]
    exact hsteps
  · obtain ⟨e2, q2, q3, q4, q5, q6⟩ := id hsm
    have e3 : s₂ = ({ (U.calling g mk a).setFrames s₂.frames with heap := s₂.heap, slotsUsed := s₂.slotsUsed } : State).setVm s₂.vm := by
      have : s₂ = ({ s₂ with vm := (U.calling g mk a).vm } : State).setVm s₂.vm := rfl
      rw [e2] at this
      exact this
    have hf₂ : s₂.frames = .throwing q :: .java g :: U.frames.tail := hend
    have hW' : U.WarmedH s₂.vm := hW₂
    have hs₂ : s₂ = ((({ U with heap := s₂.heap, slotsUsed := s₂.slotsUsed } : State).setVm s₂.vm).setTop g).pushFrame (.throwing q) := by
      refine e3.trans ?_
      rw [hf₂, State.calling_eq h.top, State.setFrames_setFrames, State.pushFrame, State.frames_setTop _ hr', State.setTop_of_frames _ hr', State.setFrames_setFrames, hr]
      rfl
    have hsame : U.sameButNew ({ U with heap := s₂.heap, slotsUsed := s₂.slotsUsed } : State) L mc ms := by
      refine ⟨?_, q2, q3, q4, q5, q6⟩
      obtain ⟨t, ht, -⟩ := State.frames_cons hr
      show ({ U with heap := s₂.heap, slotsUsed := s₂.slotsUsed } : State) = { U.setFrames U.frames with heap := s₂.heap, slotsUsed := s₂.slotsUsed }
      rw [State.setFrames_self ht]
    subst hg
    refine Or.inr ⟨q, ⟨(({ U with heap := s₂.heap, slotsUsed := s₂.slotsUsed } : State).setVm s₂.vm), Ls ++ L, c0 + mc, s0 + ms⟩,
      ⟨X.admits, X.cas, X.clock, X.frames, X.room, X.hears, X.method, X.code, (X.here.setHeapUsed s₂.heap s₂.slotsUsed).setVm hW'.alike, X.tail, State.WarmedH.trans X.warmed hW', X.limits, X.bytes, X.same.trans (hsame.setVm s.vm)⟩,
      ⟨g, mk, s₂, L, E, ce, rfl, rfl, hx, hce, hcv, hcl, rfl, hL, rfl, rfl⟩, ?_⟩
    show Steps p.tables e below _ (((({ U with heap := s₂.heap, slotsUsed := s₂.slotsUsed } : State).setVm s₂.vm).setTop g).pushFrame (.throwing q))
    rw [← hs₂]
    exact hsteps
end
variable {p : Program} {l : Launch} {e : Env} {R : Room} {s : State} {m : MethodId} {args : Array Value} {below : List Frame} {meth : Method} {c : Code} {T : State} {H : Heap} {locs : List Loc} {cells slots : Nat}
theorem vx_callVX (X : Stand p l e R s m args below meth c T locs cells slots) (hexec : p.tables.exec = Jvm.exec) {own C : String} {index : Nat} {y : MethodName} {bytes : ByteArray} {maxL : Nat} {ret : Option FieldType} {hh : List (Nat × Nat × Nat × Nat)}
    (hown : s.vm.findClass own = some m.cls) (hlink : (Cond.methodLink own index y).before args s = true) (hinst : (Cond.instanceMethod y).before args s = true) (hsel : (Cond.selects C y y).before args s = true)
    (hcode : (Cond.codeWith y bytes maxL ret hh).before args s = true) (hy : y.cls ≠ "java/lang/invoke/MethodHandle" ∧ y.cls ≠ "java/lang/invoke/VarHandle")
    {W9 : Nat} {Pre : Pt → Array Value → Prop} {Post : Pt → Array Value → Option Value → Pt → Prop} {PostX : Pt → Array Value → Addr → Pt → Prop} (hK : vx_Back l R p e below s args y 3 W9 Pre Post PostX)
    {b : Addr} {cellB : Cell} (hcell : T.heap[b]? = some cellB) (hobj : cellB.vm.isStatics = false) (hcls : s.vm.findClass C = some cellB.cls)
    {g : JFrame} (hg : g.method = m) (hsize : g.locals.size = c.maxLocals) {argsL rest : List Value} (hlen : ∀ sig, parseMethodDescriptor y.desc = some sig → argsL.length = sig.parameters.length)
    (hstack : g.stack = argsL.reverse ++ .ref b :: rest) (hW : 2 * g.monitorRoom + (rest.map fun v => v.category).sum ≤ W9) (hdg : decode c.code g.pc = .ok (.invokevirtual index, 3))
    (hpre : ∀ vm₁, s.WarmedH vm₁ → Pre ⟨T.setVm vm₁, locs, cells, slots⟩ (Value.ref b :: argsL).toArray) :
    (∃ (v : Option Value) (vm₁ : Vm) (B : Pt), s.WarmedH vm₁ ∧ Stand p l e R s m args below meth c B.U B.locs B.cells B.slots ∧ Post ⟨T.setVm vm₁, locs, cells, slots⟩ (Value.ref b :: argsL).toArray v B ∧
      ∀ target, Steps p.tables e below (B.U.setTop { g with pc := g.pc + 3, stack := v.toList ++ rest }) target → Steps p.tables e below (T.setTop g) target) ∨
    (∃ (q : Addr) (vm₁ : Vm) (B : Pt), s.WarmedH vm₁ ∧ Stand p l e R s m args below meth c B.U B.locs B.cells B.slots ∧ PostX ⟨T.setVm vm₁, locs, cells, slots⟩ (Value.ref b :: argsL).toArray q B ∧
      Steps p.tables e below (T.setTop g) ((B.U.setTop { g with stack := rest }).pushFrame (.throwing q))) := by
  obtain ⟨mk, methM, hnamed, hmethM, hstM, habM⟩ := Cond.instanceMethod_spec hinst
  obtain ⟨m8, methM', cM, hn8, hmethM', -, -, -, -, -, -, hsigM⟩ := Cond.codeWith_spec hcode
  cases Option.some.inj (hn8.symm.trans hnamed)
  cases hmethM.symm.trans hmethM'
  obtain ⟨c2, r2, m2, q1, q2, q3, q4, kP, hkP, hkPi⟩ := Cond.selects_spec hsel
  cases hcls.symm.trans q1
  cases (State.methodFound?_of_named hnamed hy).symm.trans q2
  cases hnamed.symm.trans q3
  have hselP : selectMethod e.platform s.vm cellB.cls mk = .method mk := by rw [Launch.admits_selectMethod X.admits]; exact q4
  obtain ⟨vm₁, X₁, hstep₁⟩ := X.invokevirtual hexec hown hlink hnamed hmethM hstM hkP hkPi hy (a := b) (cell := cellB) hcell
    (fun z h => by rw [h] at hobj; cases hobj) hselP hmethM habM hkP hkPi (g := g) hg (argsL := argsL) (rest := rest) (hlen _ hsigM) hstack hdg
  rcases hK m meth c ⟨T.setVm vm₁, locs, cells, slots⟩ { g with stack := rest } (.invokevirtual index) mk (Value.ref b :: argsL).toArray X₁ hg hsize hdg hW (X₁.named hnamed) (hpre vm₁ X₁.warmed) with ⟨v, B, X', hpost, hsteps⟩ | ⟨q, B, X', hpost, hsteps⟩
  · exact Or.inl ⟨v, vm₁, B, X₁.warmed, X', hpost, fun target h => hstep₁ _ fun acts => by rw [doInvoke_state]; exact hsteps.trans h⟩
  · exact Or.inr ⟨q, vm₁, B, X₁.warmed, X', hpost, hstep₁ _ fun acts => by rw [doInvoke_state]; exact hsteps⟩
theorem vx_callSX (X : Stand p l e R s m args below meth c T locs cells slots) (hexec : p.tables.exec = Jvm.exec) {own : String} {index : Nat} {y : MethodName} {bytes : ByteArray} {maxL : Nat} {ret : Option FieldType} {hh : List (Nat × Nat × Nat × Nat)}
    (hown : s.vm.findClass own = some m.cls) (hlink : (Cond.methodLink own index y).before args s = true) (hstat : (Cond.static y).before args s = true) (hinit : (Cond.initialized y.cls).before args s = true)
    (hcode : (Cond.codeWith y bytes maxL ret hh).before args s = true) (hy : y.cls ≠ "java/lang/invoke/MethodHandle" ∧ y.cls ≠ "java/lang/invoke/VarHandle")
    {W9 : Nat} {Pre : Pt → Array Value → Prop} {Post : Pt → Array Value → Option Value → Pt → Prop} {PostX : Pt → Array Value → Addr → Pt → Prop} (hK : vx_Back l R p e below s args y 3 W9 Pre Post PostX)
    {g : JFrame} (hg : g.method = m) (hsize : g.locals.size = c.maxLocals) {argsL rest : List Value} (hlen : ∀ sig, parseMethodDescriptor y.desc = some sig → argsL.length = sig.parameters.length)
    (hstack : g.stack = argsL.reverse ++ rest) (hW : 2 * g.monitorRoom + (rest.map fun v => v.category).sum ≤ W9) (hdg : decode c.code g.pc = .ok (.invokestatic index, 3))
    (hpre : ∀ vm₁, s.WarmedH vm₁ → Pre ⟨T.setVm vm₁, locs, cells, slots⟩ argsL.toArray) :
    (∃ (v : Option Value) (vm₁ : Vm) (B : Pt), s.WarmedH vm₁ ∧ Stand p l e R s m args below meth c B.U B.locs B.cells B.slots ∧ Post ⟨T.setVm vm₁, locs, cells, slots⟩ argsL.toArray v B ∧
      ∀ target, Steps p.tables e below (B.U.setTop { g with pc := g.pc + 3, stack := v.toList ++ rest }) target → Steps p.tables e below (T.setTop g) target) ∨
    (∃ (q : Addr) (vm₁ : Vm) (B : Pt), s.WarmedH vm₁ ∧ Stand p l e R s m args below meth c B.U B.locs B.cells B.slots ∧ PostX ⟨T.setVm vm₁, locs, cells, slots⟩ argsL.toArray q B ∧
      Steps p.tables e below (T.setTop g) ((B.U.setTop { g with stack := rest }).pushFrame (.throwing q))) := by
  obtain ⟨mk, methM, cM, hnamed, hmethM, -, -, -, -, -, -, hsigM⟩ := Cond.codeWith_spec hcode
  have hstatic : methM.isStatic = true := Cond.static_spec hnamed hmethM hstat
  obtain ⟨kP, hkP, -⟩ := className_of_methodNamed hnamed
  have hinitP : kP.init = .initialized := Cond.initialized_spec (findClass_of_methodNamed hnamed) hkP hinit
  obtain ⟨vm₁, X₁, hstep₁⟩ := X.invokestatic hexec hown hlink hnamed hmethM hstatic hkP hinitP hy (g := g) hg (argsL := argsL) (rest := rest) (hlen _ hsigM) hstack hdg
  rcases hK m meth c ⟨T.setVm vm₁, locs, cells, slots⟩ { g with stack := rest } (.invokestatic index) mk argsL.toArray X₁ hg hsize hdg hW (X₁.named hnamed) (hpre vm₁ X₁.warmed) with ⟨v, B, X', hpost, hsteps⟩ | ⟨q, B, X', hpost, hsteps⟩
  · exact Or.inl ⟨v, vm₁, B, X₁.warmed, X', hpost, fun target h => hstep₁ _ fun acts => by rw [doInvoke_state]; exact hsteps.trans h⟩
  · exact Or.inr ⟨q, vm₁, B, X₁.warmed, X', hpost, hstep₁ _ fun acts => by rw [doInvoke_state]; exact hsteps⟩
theorem vx_callVW (X : Stand p l e R s m args below meth c T locs cells slots) (hexec : p.tables.exec = Jvm.exec) {own C : String} {index : Nat} {y : MethodName} {bytes : ByteArray} {maxL : Nat} {ret : Option FieldType} {hh : List (Nat × Nat × Nat × Nat)}
    (hown : s.vm.findClass own = some m.cls) (hlink : (Cond.methodLink own index y).before args s = true) (hinst : (Cond.instanceMethod y).before args s = true) (hsel : (Cond.selects C y y).before args s = true)
    (hcode : (Cond.codeWith y bytes maxL ret hh).before args s = true) (hy : y.cls ≠ "java/lang/invoke/MethodHandle" ∧ y.cls ≠ "java/lang/invoke/VarHandle")
    {W9 : Nat} {Pre : Pt → Array Value → Prop} {Post : Pt → Array Value → Option Value → Pt → Prop} (hK : Back l R p e below s args y 3 W9 Pre Post)
    {b : Addr} {cellB : Cell} (hcell : T.heap[b]? = some cellB) (hobj : cellB.vm.isStatics = false) (hcls : s.vm.findClass C = some cellB.cls)
    {g : JFrame} (hg : g.method = m) (hsize : g.locals.size = c.maxLocals) {argsL rest : List Value} (hlen : ∀ sig, parseMethodDescriptor y.desc = some sig → argsL.length = sig.parameters.length)
    (hstack : g.stack = argsL.reverse ++ .ref b :: rest) (hW : 2 * g.monitorRoom + (rest.map fun v => v.category).sum ≤ W9) (hdg : decode c.code g.pc = .ok (.invokevirtual index, 3))
    (hpre : ∀ vm₁, s.WarmedH vm₁ → Pre ⟨T.setVm vm₁, locs, cells, slots⟩ (Value.ref b :: argsL).toArray) :
    ∃ (v : Option Value) (vm₁ : Vm) (B : Pt), s.WarmedH vm₁ ∧ Stand p l e R s m args below meth c B.U B.locs B.cells B.slots ∧ Post ⟨T.setVm vm₁, locs, cells, slots⟩ (Value.ref b :: argsL).toArray v B ∧
      ∀ target, Steps p.tables e below (B.U.setTop { g with pc := g.pc + 3, stack := v.toList ++ rest }) target → Steps p.tables e below (T.setTop g) target := by
  obtain ⟨mk, methM, hnamed, hmethM, hstM, habM⟩ := Cond.instanceMethod_spec hinst
  obtain ⟨m8, methM', cM, hn8, hmethM', -, -, -, -, -, -, hsigM⟩ := Cond.codeWith_spec hcode
  cases Option.some.inj (hn8.symm.trans hnamed)
  cases hmethM.symm.trans hmethM'
  obtain ⟨c2, r2, m2, q1, q2, q3, q4, kP, hkP, hkPi⟩ := Cond.selects_spec hsel
  cases hcls.symm.trans q1
  cases (State.methodFound?_of_named hnamed hy).symm.trans q2
  cases hnamed.symm.trans q3
  have hselP : selectMethod e.platform s.vm cellB.cls mk = .method mk := by rw [Launch.admits_selectMethod X.admits]; exact q4
  obtain ⟨vm₁, X₁, hstep₁⟩ := X.invokevirtual hexec hown hlink hnamed hmethM hstM hkP hkPi hy (a := b) (cell := cellB) hcell
    (fun z h => by rw [h] at hobj; cases hobj) hselP hmethM habM hkP hkPi (g := g) hg (argsL := argsL) (rest := rest) (hlen _ hsigM) hstack hdg
  obtain ⟨v, B, X', hpost, hsteps⟩ := hK m meth c ⟨T.setVm vm₁, locs, cells, slots⟩ { g with stack := rest } (.invokevirtual index) mk (Value.ref b :: argsL).toArray X₁ hg hsize hdg hW (X₁.named hnamed) (hpre vm₁ X₁.warmed)
  exact ⟨v, vm₁, B, X₁.warmed, X', hpost, fun target h => hstep₁ _ fun acts => by rw [doInvoke_state]; exact hsteps.trans h⟩
abbrev vx_CVW (R : Room) (s : State) (args : Array Value) (own C : String) (index : Nat) (y : MethodName) (bytes : ByteArray) (maxL : Nat) (ret : Option FieldType) (hh : List (Nat × Nat × Nat × Nat)) (ws : List Cond) (rm : Room) (mc ms n : Nat) : Prop :=
  (rm.cells = mc ∧ rm.slots = ms ∧ rm.frames + 1 ≤ R.frames ∧ 8 + (maxL + 11) + rm.locals ≤ R.locals ∧ (∀ w ∈ ws, ∀ (a' : Array Value) (U : State), s.WarmedH U.vm → w.before a' U = true) ∧ Cond.codeWith y bytes maxL ret hh ∈ ws) ∧
  (Cond.codeWith y bytes maxL ret hh).before args s = true ∧ (Cond.initialized y.cls).before args s = true ∧ (y.cls ≠ "java/lang/invoke/MethodHandle" ∧ y.cls ≠ "java/lang/invoke/VarHandle") ∧
  (∀ sig, parseMethodDescriptor y.desc = some sig → n = sig.parameters.length) ∧ (Cond.methodLink own index y).before args s = true ∧ (Cond.instanceMethod y).before args s = true ∧ (Cond.selects C y y).before args s = true
theorem vx_cwVW {own C : String} {index maxL mc ms : Nat} {y : MethodName} {bytes : ByteArray} {ret : Option FieldType} {hh : List (Nat × Nat × Nat × Nat)} {Ts ws ws' : List Cond} {rm : Room} (n : Nat) (ht : ∀ w ∈ Ts, w.before args s = true) (hT : GoodIn Ts (wsV own index C y ws)) (hw : ws = Cond.codeWith y bytes maxL ret hh :: ws') (hrc : rm.cells = mc) (hrs : rm.slots = ms)
    (hd : y.cls = C ∧ y.cls ≠ "java/lang/invoke/MethodHandle" ∧ y.cls ≠ "java/lang/invoke/VarHandle" ∧ (parseMethodDescriptor y.desc).map (fun d => d.parameters.length) = some n) (hR : rm.frames + 1 ≤ R.frames ∧ 8 + (maxL + 11) + rm.locals ≤ R.locals) :
    vx_CVW R s args own C index y bytes maxL ret hh ws rm mc ms n := by
  obtain ⟨hC, hd⟩ := hd
  subst hC
  have ok : ∀ w ∈ wsV own index y.cls y ws, w.before args s = true := fun w h => ht w (hT w h).1
  have hG : GoodIn Ts ws := fun w h => hT w (by unfold wsV; exact List.mem_append_right _ h)
  have hc : Cond.codeWith y bytes maxL ret hh ∈ ws := by rw [hw]; exact List.mem_cons_self
  refine ⟨⟨hrc, hrs, hR.1, hR.2, pay_in ht hG, hc⟩, ht _ (hG _ hc).1, ok _ (by simp [wsV]), ⟨hd.1, hd.2.1⟩, fun sig h => ?_, ok _ (by simp [wsV]), ok _ (by simp [wsV]), ok _ (by simp [wsV])⟩
  have h2 := hd.2.2
  rw [h] at h2
  exact (Option.some.inj h2).symm
theorem vx_runVW {y : MethodName} {bytes cc : ByteArray} {maxL nL mc ms n index : Nat} {ret : Option FieldType} {hh : List (Nat × Nat × Nat × Nat)} {ws : List Cond} {rm : Room} {Pc : Array Value → State → Prop} {Qc : Array Value → State → Outcome → State → Prop} {free : Addr → Prop} {Ts : List Cond} {own C : String} {b : Addr} {As rest : List Value} {g : JFrame}
    (S : CallFix p m c cc nL s args Ts own) (hM : Met l y ws rm Pc Qc mc ms free) (cw : vx_CVW R s args own C index y bytes maxL ret hh ws rm mc ms n) (hp : PreV s H C b Pc As)
    (hg : g.method = m) (hn : As.length = n) (hsize : g.locals.size = nL) (hstack : g.stack = As.reverse ++ .ref b :: rest) (hW : 2 * g.monitorRoom + (rest.map fun v => v.category).sum ≤ 8) (hdg : decode cc g.pc = .ok (.invokevirtual index, 3)) (hf : cells + mc ≤ R.cells ∧ slots + ms ≤ R.slots) :
    va_Run p l e R s m args below meth c H locs cells slots mc ms g rest (Qc (Value.ref b :: As).toArray) free := by
  obtain ⟨⟨hrc, hrs, hfr, hlo, hws, hcw⟩, hcode, hini, hy, hlen, hl, hin, hse⟩ := cw
  have hK : Back l R p e below s args y 3 8 (PreOf R mc ms Pc) (PostOf Qc mc ms free) := va_backW (hh := hh) (bytes := bytes) (maxL := maxL) (ret := ret) hM hp.1 hrc hrs hfr hlo hws hcw (fun a' U hW => word_at hW (Or.inl (by first | rfl | simp [Cond.onTables, Cond.keeps, Cond.steady])) hini)
  obtain ⟨hx, hb, hml, ho, -⟩ := S
  obtain ⟨-, ⟨cellB, hcB, hoB, hclB⟩, hPc⟩ := hp
  intro T hT X
  obtain ⟨v, vm₁, ⟨U', l2, c2, s2⟩, hW₁, X', ⟨g', mk, t, L, e1, e2, hq, h1, hL, h2, h3⟩, st⟩ := vx_callVW X hx (C := C) (hh := hh) (bytes := bytes) (maxL := maxL) (ret := ret) ho hl hin hse hcode hy hK (by rw [hT]; exact hcB) hoB hclB hg (hsize.trans hml.symm) (argsL := As) (rest := rest) (fun sig h => hn.trans (hlen sig h)) hstack hW (by rw [hb]; exact hdg)
    (fun vm₁ hW₁ => ⟨hf.1, hf.2, hPc (T.setVm vm₁) hT hW₁⟩)
  dsimp only [Pt.U, Pt.locs, Pt.cells, Pt.slots] at X' e1 e2 h1 h2 h3 st
  subst h1; subst h2; subst h3
  exact ⟨v, (T.setVm vm₁).calling g' mk (Value.ref b :: As).toArray, t, U', L, hT, X', hL, e1, e2, hq, st⟩
section
variable {y : MethodName} {bytes cc : ByteArray} {maxL nL mc ms n index : Nat} {ret : Option FieldType} {ws : List Cond} {rm : Room} {Pc : Array Value → State → Prop} {Qc : Array Value → State → Outcome → State → Prop} {XC : String → State → State → Prop} {free : Addr → Prop} {Ts : List Cond} {own C : String} {b : Addr} {As rest : List Value} {g : JFrame}
theorem vx_runVX {hh : List (Nat × Nat × Nat × Nat)} (S : CallFix p m c cc nL s args Ts own) (hM : vx_Met l y ws rm Pc Qc XC mc ms free) (cw : vx_CVW R s args own C index y bytes maxL ret hh ws rm mc ms n) (hp : PreV s H C b Pc As)
    (hg : g.method = m) (hn : As.length = n) (hsize : g.locals.size = nL) (hstack : g.stack = As.reverse ++ .ref b :: rest) (hW : 2 * g.monitorRoom + (rest.map fun v => v.category).sum ≤ 8) (hdg : decode cc g.pc = .ok (.invokevirtual index, 3)) (hf : cells + mc ≤ R.cells ∧ slots + ms ≤ R.slots) :
    vx_Run p l e R s m args below meth c H locs cells slots mc ms g rest (Qc (Value.ref b :: As).toArray) XC free := by
  obtain ⟨⟨hrc, hrs, hfr, hlo, hws, hcw⟩, hcode, hini, hy, hlen, hl, hin, hse⟩ := cw
  have hK : vx_Back l R p e below s args y 3 8 (PreOf R mc ms Pc) (PostOf Qc mc ms free) (vx_Post XC mc ms free) := vx_backW (hh := hh) (bytes := bytes) (maxL := maxL) (ret := ret) hM hp.1 hrc hrs hfr hlo hws hcw (fun a' U hW => word_at hW (Or.inl (by first | rfl | simp [Cond.onTables, Cond.keeps, Cond.steady])) hini)
  obtain ⟨hx, hb, hml, ho, -⟩ := S
  obtain ⟨-, ⟨cellB, hcB, hoB, hclB⟩, hPc⟩ := hp
  intro T hT X
  rcases vx_callVX X hx (C := C) (hh := hh) (bytes := bytes) (maxL := maxL) (ret := ret) ho hl hin hse hcode hy hK (by rw [hT]; exact hcB) hoB hclB hg (hsize.trans hml.symm) (argsL := As) (rest := rest) (fun sig h => hn.trans (hlen sig h)) hstack hW (by rw [hb]; exact hdg)
    (fun vm₁ hW₁ => ⟨hf.1, hf.2, hPc (T.setVm vm₁) hT hW₁⟩) with ⟨v, vm₁, ⟨U', l2, c2, s2⟩, hW₁, X', ⟨g', mk, t, L, e1, e2, hq, h1, hL, h2, h3⟩, st⟩ | ⟨q, vm₁, ⟨U', l2, c2, s2⟩, hW₁, X', ⟨g', mk, t, L, E, ce, e1, e2, hq, hce, hcv, hcl, h1, hL, h2, h3⟩, st⟩
  · dsimp only [Pt.U, Pt.locs, Pt.cells, Pt.slots] at X' e1 e2 h1 h2 h3 st
    subst h1; subst h2; subst h3
    exact Or.inl ⟨v, (T.setVm vm₁).calling g' mk (Value.ref b :: As).toArray, t, U', L, hT, X', hL, e1, e2, hq, st⟩
  · dsimp only [Pt.U, Pt.locs, Pt.cells, Pt.slots] at X' e1 e2 h1 h2 h3 st hcl
    subst h1; subst h2; subst h3
    exact Or.inr ⟨q, (T.setVm vm₁).calling g' mk (Value.ref b :: As).toArray, t, U', L, E, ce, hT, X', hL, e1, e2, hq, hce, hcv, vx_cls hW₁ hcl, st⟩
theorem vx_runSX {hh : List (Nat × Nat × Nat × Nat)} (S : CallFix p m c cc nL s args Ts own) (hM : vx_Met l y ws rm Pc Qc XC mc ms free) (cw : vx_CSW R s args own index y bytes maxL ret hh ws rm mc ms n) (hp : PreS s H Pc As)
    (hg : g.method = m) (hn : As.length = n) (hsize : g.locals.size = nL) (hstack : g.stack = As.reverse ++ rest) (hW : 2 * g.monitorRoom + (rest.map fun v => v.category).sum ≤ 8) (hdg : decode cc g.pc = .ok (.invokestatic index, 3)) (hf : cells + mc ≤ R.cells ∧ slots + ms ≤ R.slots) :
    vx_Run p l e R s m args below meth c H locs cells slots mc ms g rest (Qc As.toArray) XC free := by
  obtain ⟨⟨hrc, hrs, hfr, hlo, hws, hcw⟩, hcode, hini, hy, hlen, hl, hstt⟩ := cw
  have hK : vx_Back l R p e below s args y 3 8 (PreOf R mc ms Pc) (PostOf Qc mc ms free) (vx_Post XC mc ms free) := vx_backW (hh := hh) (bytes := bytes) (maxL := maxL) (ret := ret) hM hp.1 hrc hrs hfr hlo hws hcw (fun a' U hW => word_at hW (Or.inl (by first | rfl | simp [Cond.onTables, Cond.keeps, Cond.steady])) hini)
  obtain ⟨hx, hb, hml, ho, -⟩ := S
  intro T hT X
  rcases vx_callSX X hx (hh := hh) (bytes := bytes) (maxL := maxL) (ret := ret) ho hl hstt hini hcode hy hK hg (hsize.trans hml.symm) (argsL := As) (rest := rest) (fun sig h => hn.trans (hlen sig h)) hstack hW (by rw [hb]; exact hdg)
    (fun vm₁ hW₁ => ⟨hf.1, hf.2, hp.2 (T.setVm vm₁) hT hW₁⟩) with ⟨v, vm₁, ⟨U', l2, c2, s2⟩, hW₁, X', ⟨g', mk, t, L, e1, e2, hq, h1, hL, h2, h3⟩, st⟩ | ⟨q, vm₁, ⟨U', l2, c2, s2⟩, hW₁, X', ⟨g', mk, t, L, E, ce, e1, e2, hq, hce, hcv, hcl, h1, hL, h2, h3⟩, st⟩
  · dsimp only [Pt.U, Pt.locs, Pt.cells, Pt.slots] at X' e1 e2 h1 h2 h3 st
    subst h1; subst h2; subst h3
    exact Or.inl ⟨v, (T.setVm vm₁).calling g' mk As.toArray, t, U', L, hT, X', hL, e1, e2, hq, st⟩
  · dsimp only [Pt.U, Pt.locs, Pt.cells, Pt.slots] at X' e1 e2 h1 h2 h3 st hcl
    subst h1; subst h2; subst h3
    exact Or.inr ⟨q, (T.setVm vm₁).calling g' mk As.toArray, t, U', L, E, ce, hT, X', hL, e1, e2, hq, hce, hcv, vx_cls hW₁ hcl, st⟩
end
end VXH
theorem vx_ofWH {l : Launch} {y : MethodName} {ws ws' : List Cond} {rm : Room} {Pc : Array Value → State → Prop} {Qc : Array Value → State → Outcome → State → Prop} {XC : String → State → State → Prop} {mc ms : Nat} {free : Addr → Prop} {cc : ByteArray} {maxL : Nat} {ret : Option FieldType} {hh : List (Nat × Nat × Nat × Nat)}
    (hy : plainName y.cls = true) (hw : ws = Cond.codeWith y cc maxL ret hh :: ws')
    (body : ∀ p e s m args below meth c s₁, BodyLoose p l y (headSpec ws rm) cc maxL ret e s m args below meth c s₁ → c.maxLocals = maxL → Pc args s →
      W p l e (headSpec ws rm).room s m args below meth c s.heap [] 0 0 (vx_MQ below Qc XC args s mc ms free) (entryFrame m args maxL)) : vx_Met l y ws rm Pc Qc XC mc ms free := by
  refine MetFree.of_bodyS (code := cc) (maxLocals := maxL) (ret := ret) hy ?_ ?_
  · intro args s m h hn
    obtain ⟨m9, meth, c, hn9, h1, h2, h3, h4, -, h5, h6, -⟩ := Cond.codeWith_spec (atoms_spec (ws := ws) h _ (by rw [hw]; exact List.mem_cons_self))
    cases hn.symm.trans hn9
    exact ⟨meth, c, h1, h2, h3, h4, h5, h6⟩
  · intro p e s m args below meth c s₁ B hml hP _
    have hh0 : s₁.heap = s.heap := by rw [B.state]; rfl
    obtain ⟨t, a1, o, b1, b2, b3⟩ := body p e s m args below meth c s₁ B hml hP s₁ hh0 (Stand.of_body B)
    exact ⟨t, o, a1, b1, b2, b3⟩
/-! ===== END ===== -/
/-! ===== BEGIN what the machine throws by itself, no traces kept ===== -/
section VXM
set_option maxHeartbeats 1000000 in
/-- the machine throws cls with the message text, no traces kept: from its note over the frame g to 'throwing' over the same frame (follows the proofs of Stand.vmThrowsMessage, Shelf/KitTracedVmS.lean, and Stand.throwsMessageColdBareV, StandMessageColdV.lean, without the step out of the frame) -/
theorem vx_vmAt {p : Program} {l : Launch} {e : Env} {R : Room} {s : State} {m₀ : MethodId} {args : Array Value} {below : List Frame} {meth : Method} {c : Code} {W : State} {locs : List Loc} {cells slots : Nat}
    (X : Stand p l e R s m₀ args below meth c W locs cells slots) (hexec : p.tables.exec = Jvm.exec) (htr : e.platform.stackTraces = false) {cls : String} {names : List String} {text : String}
    (hcls : Bundle.fit cls = true) (hnames : ∀ n ∈ names, Bundle.fit n = true) (hsoe : (cls == "java/lang/StackOverflowError") = false) (hoom : (cls == "java/lang/OutOfMemoryError") = false)
    (h : ∀ a ∈ Bundle.messageArmAtoms cls names, a.before args s = true)
    (hlocs : ∀ x ∈ locs, ∀ cell, s.heap[x.base]? = some cell → cell.vm.isStatics = false)
    (htext : (text == notModelled) = false) (hlimit : ¬ (stringBytes (stringToUtf16 text)).size > e.platform.arrayLengthLimit) (hheap : ¬ (stringBytes (stringToUtf16 text)).size * componentBytes .byte > e.platform.maxHeapBytes)
    {g : JFrame} (hg : g.method = m₀) (hsize : g.locals.size = c.maxLocals)
    (hRframes : names.length + 4 < R.frames) (hRlocals : 2 * g.monitorRoom + (g.stack.map fun v => v.category).sum + 10240 ≤ R.locals) (hshort : 13 * names.length + 55 ≤ 10240)
    (hRcells : cells + 3 ≤ R.cells) (hRslots : slots + ((stringBytes (stringToUtf16 text)).size + 4 + 6) ≤ R.slots) (hlocks : meth.locks = false) :
    ∃ (S : State) (q : Addr) (ce : Cell), (∀ target, Steps p.tables e below ((S.setTop g).pushFrame (.throwing q)) target → Steps p.tables e below ((W.setTop g).pushFrame (.throwNew cls (some text) none)) target) ∧
      Stand p l e R s m₀ args below meth c S locs (cells + 3) (slots + ((stringBytes (stringToUtf16 text)).size + 4 + 6)) ∧ S.heap[q]? = some ce ∧ s.vm.findClass cls = some ce.cls ∧ ce.vm = .none := by
  have howns : e.platform.frameOwnsMonitors = true := by rw [X.admits.platform]
  have hfin : e.platform.finalization = false := by rw [X.admits.platform]
  have hpl : e.platform.magicAccessors = ({} : Platform).magicAccessors := by rw [X.admits.platform]
  have a : ∀ x, x ∈ Bundle.messageArmAtoms cls names → x.holds args s none s [] = true := fun x hx => h x hx
  obtain ⟨T, Z0, L, -, Y⟩ := ThrowableC.of_atoms (args := args) howns hfin hpl (fun x hx => h x (by simp [Bundle.messageArmAtoms, hx]))
  obtain ⟨Z, M, LZ, LM, hnZ⟩ := Init0T.ofS_atoms (args := args) hpl L Y (fun x hx => h x (by simp [Bundle.messageArmAtoms, hx]))
  obtain ⟨P1, Ps, hlen, L1, hL, hP1m, hlink1, hlink⟩ := Bundle.chainS (args := args) hpl hnZ names cls hcls hnames (fun x hx => h x (by simp [Bundle.messageArmAtoms, hx]))
  obtain ⟨Zs, LZs, hn4, hfitv, hfitc⟩ := StringT.of_atoms (args := args) (fun x hx => h x (by simp [Bundle.messageArmAtoms, hx]))
  have hfound : s.vm.findClass cls = some P1.m.cls := findClass_of_methodNamed hP1m
  obtain ⟨c1, kX, hc1, hk, hord, -, -, hn6⟩ := Cond.instantiable_spec (a (.instantiable cls 6) (by simp [Bundle.messageArmAtoms]))
  cases Option.some.inj (hc1.symm.trans hfound)
  have hinit := Cond.initialized_spec hfound hk (a (.initialized cls) (by simp [Bundle.messageArmAtoms]))
  have hctor : kX.findMethod "<init>" "(Ljava/lang/String;)V" = some P1.m.idx := findMethod_of_methodNamed hP1m hk
  have hsel0 : selectMethod e.platform s.vm P1.m.cls T.fill0 = .method T.fill0 := by
    obtain ⟨c2, r2, m2, q1, q2, q3, q4, -⟩ := Cond.selects_spec (a (.selects cls Bundle.tFill0 Bundle.tFill0) (by simp [Bundle.messageArmAtoms]))
    cases Option.some.inj (q1.symm.trans hfound)
    cases Option.some.inj (q2.symm.trans (State.methodFound?_of_named Y.fill0 (by decide)))
    cases Option.some.inj (q3.symm.trans Y.fill0)
    rw [Launch.admits_selectMethod X.admits]; exact q4
  have hselF : selectMethod e.platform s.vm P1.m.cls T.fill = .method T.fill := by
    obtain ⟨c2, r2, m2, q1, q2, q3, q4, -⟩ := Cond.selects_spec (a (.selects cls Bundle.tFill Bundle.tFill) (by simp [Bundle.messageArmAtoms]))
    cases Option.some.inj (q1.symm.trans hfound)
    cases Option.some.inj (q2.symm.trans (State.methodFound?_of_named Y.fill (by decide)))
    cases Option.some.inj (q3.symm.trans Y.fill)
    rw [Launch.admits_selectMethod X.admits]; exact q4
  obtain ⟨cellS0, hcS0, hiss⟩ := Y.statics
  obtain ⟨u0, hu0⟩ := Cond.staticRefV Y.unassigned L.unassignedStatic L.statics hcS0 hiss (a (.isRef (.static Bundle.tN "UNASSIGNED_STACK" Bundle.steD)) (by simp [Bundle.messageArmAtoms]))
  obtain ⟨sen, hsen⟩ := Cond.staticRefV Y.sentinel L.sentinelStatic L.statics hcS0 hiss (a (.isRef (.static Bundle.tN "SUPPRESSED_SENTINEL" Bundle.listD)) (by simp [Bundle.messageArmAtoms]))
  obtain ⟨ci198, i198, fB, hk198, hg198, ha198, hsB, -, hnB, htB, hffB⟩ := Cond.ownField (t := .object "java/lang/Object") Y.found L.cls (by decide +kernel) (a (.fieldLink Bundle.tN 198 Bundle.tN "backtrace" "Ljava/lang/Object;") (by simp [Bundle.messageArmAtoms])) (a (.lays Bundle.tN Bundle.tN "backtrace" "Ljava/lang/Object;") (by simp [Bundle.messageArmAtoms])) e.platform hpl
  obtain ⟨cellS, hcS', heS, -, hkeep⟩ := X.same.2.2.2.2.2 T.aS cellS0 hcS0
  have hcellS : W.heap[T.aS]? = some cellS := hcS'
  have hout' : ∀ i, (⟨T.aS, i⟩ : Loc) ∉ locs := fun i hmem => by
    have := hlocs _ hmem cellS0 hcS0
    rw [hiss] at this; cases this
  have hknownS : cellS.vm ≠ .unknown := by
    rw [heS]; intro hu
    rw [show cellS0.vm = .unknown from hu] at hiss
    cases hiss
  have hvU : cellS.slots[T.fUnassigned.slot]? = some u0.v := by rw [hkeep _ (hout' _)]; exact hu0
  have hvSen : cellS.slots[T.fSentinel.slot]? = some sen.v := by rw [hkeep _ (hout' _)]; exact hsen
  obtain ⟨iM, hffM⟩ := Y.msg
  obtain ⟨tyC, dC, hdC, hdnC⟩ := Cond.laysAt hfound hk Y.cause (a (.lays cls Bundle.tN "cause" "Ljava/lang/Throwable;") (by simp [Bundle.messageArmAtoms]))
  obtain ⟨tyS, dS, hdS, hdnS⟩ := Cond.laysAt hfound hk Y.stack (a (.lays cls Bundle.tN "stackTrace" Bundle.steD) (by simp [Bundle.messageArmAtoms]))
  obtain ⟨tyP, dP, hdP, hdnP⟩ := Cond.laysAt hfound hk Y.supp (a (.lays cls Bundle.tN "suppressedExceptions" Bundle.listD) (by simp [Bundle.messageArmAtoms]))
  obtain ⟨tyM, dM, hdM, hdnM⟩ := Cond.laysAt hfound hk hffM (a (.lays cls Bundle.tN "detailMessage" "Ljava/lang/String;") (by simp [Bundle.messageArmAtoms]))
  obtain ⟨tyB, dB, hdB, hdnB⟩ := Cond.laysAt hfound hk hffB (a (.lays cls Bundle.tN "backtrace" "Ljava/lang/Object;") (by simp [Bundle.messageArmAtoms]))
  have bC := Cond.laysApart hdB hdC hdnB hdnC (by rw [hnB, Y.causeName]; decide)
  have bS := Cond.laysApart hdB hdS hdnB hdnS (by rw [hnB, Y.stackName]; decide)
  have bP := Cond.laysApart hdB hdP hdnB hdnP (by rw [hnB, Y.suppName]; decide)
  have hbk : ((preparedCellV T.toThrowableT (freshCell P1.m.cls kX) (W.heap.size + 2) u0 sen).withEntry W.cur).slots[fB.slot]? = some .null := by
    have := fresh_default (c := P1.m.cls) tyB
    rw [htB] at this
    simpa [preparedCellV, Cell.setSlot, Cell.withEntry, Array.getElem?_setIfInBounds, bC, bS, bP, bC.symm, bS.symm, bP.symm, defaultValue] using this
  have tkC := Takes.of_laid (v := .ref (W.heap.size + 2)) hk hord tyC (by rw [Y.causeType]; rfl)
  have tkS := Takes.of_laid (v := u0.v) hk hord tyS (by rw [Y.stackType]; exact fits_refV_array _ u0)
  have tkP := Takes.of_laid (v := sen.v) hk hord tyP (by rw [Y.suppType]; exact fits_refV_object _ sen)
  have tkM := Takes.of_laid (v := .ref (W.heap.size + 1)) hk hord tyM (by rw [Y.msgType]; rfl)
  have hskip : SkipFacts T e.platform s (fun u => u) u0 ((preparedCellV T.toThrowableT (freshCell P1.m.cls kX) (W.heap.size + 2) u0 sen).withEntry W.cur) := ⟨{ ci198 := ci198, i198 := i198, fBack := fB }, ⟨hk198, hg198, ha198, hsB⟩, hbk, fun _ _ => rfl⟩
  have h0 : At W g.method c below := by rw [hg]; exact X.here
  obtain ⟨hbeyond, hfreeW⟩ := X.vmMayThrow hsize (.throwNew cls (some text) none) (fun f hf => by cases hf) rfl hRlocals
  have hfr' : W.frames.length + Ps.length + 4 < (e.platform.stackLimits W.me).1 := by have := X.framesAbove hRframes; omega
  have hwd' : (stackUse (.java g :: W.frames.tail)).2 + 13 * Ps.length + 55 ≤ (e.platform.stackLimits W.me).2 := by have := X.stackAbove hsize (K := 13 * Ps.length + 55) (by omega); omega
  have hslots : W.slotsUsed + (stringBytes (stringToUtf16 text)).size + Zs.kS.instanceTypes.size + kX.instanceTypes.size ≤ e.platform.maxSlots := by
    have := X.slotsAbove hRslots
    rw [hn4, hn6]
    omega
  obtain ⟨vm', hW', st⟩ := Steps.vmThrowsMessageColdByV p (s₀ := s) (S := W) (g := g) h0 hexec T L Z LZ M LM X.warmed (t := W.cur) rfl Zs LZs P1 L1 Ps hL hlink1 hlink hsoe hoom hfound hk hinit hord hctor
    (Launch.admits_hotImplicitExceptions X.admits) hbeyond hfreeW htext hlimit hheap (X.cellsAbove hRcells) hslots (hfitv _) (hfitc _)
    (Nn := fun u => u) heapOnly_id (fun _ _ => rfl) (fun _ => rfl) (fun u x y => setCell_twice _ _ _ _) (fun _ => Nat.le_refl _) (cN := ((preparedCellV T.toThrowableT (freshCell P1.m.cls kX) (W.heap.size + 2) u0 sen).withEntry W.cur))
    hsel0 hcellS hknownS hvU tkS (fun _ hu => hu) (fun _ hu => hu) rfl rfl rfl (by simp [preparedCellV, Cell.setSlot, Cell.withEntry]) hskip (fun _ _ hA hW _ hroom _ hrest => L.nativeOff p htr hA hW hroom hrest) hselF hvSen tkC tkP tkM Y.objLocals rfl hfr' hwd'
  rw [plainBareV_eq T.toThrowableT (W.heap.size + 2) u0 sen (.ref (W.heap.size + 1)) W.cur rfl rfl] at st
  obtain ⟨-, -, w3, w4, -, -, -⟩ := withThrown_facts e.platform W Zs text P1.m.cls kX
  have X3 := ((X.pushed (bytesOf Zs.cB (stringToUtf16 text))).pushed (stringAt Zs.cS Zs.kS Zs.fv Zs.fc (stringToUtf16 text) W.heap.size)).pushed (freshCell P1.m.cls kX)
  rw [← withString_eq] at X3
  have X4 := X3.noted hW'
  have ha : (W.heap.size + 2) < ((withThrown W Zs text P1.m.cls kX).setVm vm').heap.size := by show _ < (withThrown W Zs text P1.m.cls kX).heap.size; rw [w3]; omega
  have hcell : ((withThrown W Zs text P1.m.cls kX).setVm vm').heap[(W.heap.size + 2)]? = some (freshCell P1.m.cls kX) := w4
  have X5 := ((((X4.stored hcell T.fCause.slot (.ref (W.heap.size + 2))).storedAgain ha T.fStack.slot u0.v).storedAgain ha T.fSupp.slot sen.v).storedAgain ha T.fStack.slot u0.v).storedAgain ha T.fMsg.slot (.ref (W.heap.size + 1))
  obtain ⟨g₁, hfrM⟩ := X5.frames_eq
  have hU : ((((withThrown W Zs text P1.m.cls kX).setVm vm').setCell (W.heap.size + 2) (plainBareV T.toThrowableT (freshCell P1.m.cls kX) (W.heap.size + 2) u0 sen (.ref (W.heap.size + 1)))).setTop g).pushFrame (.throwing (W.heap.size + 2)) = (((withThrown W Zs text P1.m.cls kX).setVm vm').setCell (W.heap.size + 2) (plainBareV T.toThrowableT (freshCell P1.m.cls kX) (W.heap.size + 2) u0 sen (.ref (W.heap.size + 1)))).setFrames (.throwing (W.heap.size + 2) :: .java g :: below) := by
    rw [State.pushFrame, State.frames_setTop _ hfrM, State.setTop_of_frames _ hfrM, State.setFrames_setFrames]
  have b1 : (bytesOf Zs.cB (stringToUtf16 text)).slots.size = (stringBytes (stringToUtf16 text)).size := by
    rw [(Cell.writeAll_facts _ _).2.2]; simp [bytes0]
  have b2 : (stringAt Zs.cS Zs.kS Zs.fv Zs.fc (stringToUtf16 text) W.heap.size).slots.size = 4 := by simp [string0, Cell.setSlot, hn4]
  have b3 : (freshCell P1.m.cls kX).slots.size = 6 := by simp [hn6]
  rw [b1, b2, b3] at X5
  have e9 : slots + (stringBytes (stringToUtf16 text)).size + 4 + 6 = slots + ((stringBytes (stringToUtf16 text)).size + 4 + 6) := by omega
  rw [e9] at X5
  simp only [List.append_assoc, List.cons_append, List.nil_append] at X5
  refine ⟨((withThrown W Zs text P1.m.cls kX).setVm vm').setCell (W.heap.size + 2) (plainBareV T.toThrowableT (freshCell P1.m.cls kX) (W.heap.size + 2) u0 sen (.ref (W.heap.size + 1))), W.heap.size + 2, _, fun target ht => st _ (by rw [X.tail, ← hU]; exact ht),
    X5.forget (fun y hy => ?_), heapAt_setCell_self _ ha, hfound, rfl⟩
  simp only [List.mem_cons, List.not_mem_nil, or_false] at hy
  have hge : s.heap.size ≤ W.heap.size := X.same.2.1
  rcases hy with rfl | rfl | rfl | rfl | rfl <;> exact Nat.le_trans hge (Nat.le_add_right _ 2)
set_option maxHeartbeats 1000000 in
/-- the machine throws NullPointerException, no traces kept: from its note over the frame g to 'throwing' over the same frame (follows the proof of Stand.vmThrowsNpe, Shelf42/KT2.lean; throwsNpeColdBareVAt, Shelf42/NT91.lean, called) -/
theorem vx_npeAt {p : Program} {l : Launch} {e : Env} {R : Room} {s : State} {m₀ : MethodId} {args : Array Value} {below : List Frame} {meth : Method} {c : Code} {W : State} {locs : List Loc} {cells slots : Nat}
    (X : Stand p l e R s m₀ args below meth c W locs cells slots) (hexec : p.tables.exec = Jvm.exec) (htr : e.platform.stackTraces = false) {n : Nat}
    (h : ∀ a ∈ Bundle.npeArmAtoms n, a.before args s = true)
    (hlocs : ∀ x ∈ locs, ∀ cell, s.heap[x.base]? = some cell → cell.vm.isStatics = false)
    {g : JFrame} (hg : g.method = m₀) (hsize : g.locals.size = c.maxLocals)
    (hRframes : 7 < R.frames) (hRlocals : 2 * g.monitorRoom + (g.stack.map fun v => v.category).sum + 10240 ≤ R.locals)
    (hRcells : cells + 1 ≤ R.cells) (hRslots : slots + n ≤ R.slots) (hlocks : meth.locks = false) :
    ∃ (S : State) (q : Addr) (ce : Cell), (∀ target, Steps p.tables e below ((S.setTop g).pushFrame (.throwing q)) target → Steps p.tables e below ((W.setTop g).pushFrame (.throwNew "java/lang/NullPointerException" none none)) target) ∧
      Stand p l e R s m₀ args below meth c S locs (cells + 1) (slots + n) ∧ S.heap[q]? = some ce ∧ s.vm.findClass "java/lang/NullPointerException" = some ce.cls ∧ ce.vm = .none := by
  have howns : e.platform.frameOwnsMonitors = true := by rw [X.admits.platform]
  have hfin : e.platform.finalization = false := by rw [X.admits.platform]
  have hpl : e.platform.magicAccessors = ({} : Platform).magicAccessors := by rw [X.admits.platform]
  have hpl2 : e.platform.arrayCloneIsPublic = true := by rw [X.admits.platform]
  have a' : ∀ x, x ∈ Bundle.npeArmAtoms n → x.holds args s none s [] = true := fun x hx => h x hx
  obtain ⟨T, Z, L, LZ, Y⟩ := ThrowableC.of_atoms (args := args) howns hfin hpl (fun x hx => h x (by simp [Bundle.npeArmAtoms, hx]))
  obtain ⟨N, LN, hcN, hnNF, hordN, hffS⟩ := NpeC.of_atoms (args := args) hpl hpl2 L Y (fun x hx => h x (by simp [Bundle.npeArmAtoms, hx]))
  obtain ⟨P1, L1, hP1m, hP1s⟩ := PassC.of_atoms (args := args) (s := s) hpl (X := Bundle.nN) (Y := Bundle.rN) (by decide) (by decide) LibCode.NullPointerException.Init0.at_0 LibCode.NullPointerException.Init0.at_1 LibCode.NullPointerException.Init0.at_4 (fun x hx => h x (by simp [Bundle.npeArmAtoms, hx]))
  obtain ⟨PR, LR, hPRm, hPRs⟩ := PassC.of_atoms (args := args) (s := s) hpl (X := Bundle.rN) (Y := Bundle.eN) (by decide) (by decide) LibCode.RuntimeException.Init0.at_0 LibCode.RuntimeException.Init0.at_1 LibCode.RuntimeException.Init0.at_4 (fun x hx => h x (by simp [Bundle.npeArmAtoms, hx]))
  obtain ⟨PE, LEx, hPEm, hPEs⟩ := PassC.of_atoms (args := args) (s := s) hpl (X := Bundle.eN) (Y := Bundle.tN) (by decide) (by decide) LibCode.Exception.Init0.at_0 LibCode.Exception.Init0.at_1 LibCode.Exception.Init0.at_4 (fun x hx => h x (by simp [Bundle.npeArmAtoms, hx]))
  have hfound : s.vm.findClass Bundle.nN = some P1.m.cls := findClass_of_methodNamed hP1m
  have ecls : N.cN = P1.m.cls := Option.some.inj (hcN.symm.trans hfound)
  have hk : s.vm.classes[P1.m.cls]? = some N.kN := by rw [← ecls]; exact LN.cls
  have hinit := Cond.initialized_spec hfound hk (a' (.initialized Bundle.nN) (by simp [Bundle.npeArmAtoms]))
  have hctor : N.kN.findMethod "<init>" "()V" = some P1.m.idx := findMethod_of_methodNamed hP1m hk
  obtain ⟨c1, k1, hc1, hk1, -, -, -, hn⟩ := Cond.instantiable_spec (a' (.instantiable Bundle.nN n) (by simp [Bundle.npeArmAtoms]))
  cases Option.some.inj (hc1.symm.trans hfound)
  cases Option.some.inj (hk1.symm.trans hk)
  have hfsz : (freshCell P1.m.cls N.kN).slots.size = n := by simp [hn]
  have hlink1 : P1.sup = PR.m := Option.some.inj (hP1s.symm.trans hPRm)
  have hlinkR : PR.sup = PE.m := Option.some.inj (hPRs.symm.trans hPEm)
  have hlinkE : PE.sup = Z.m T.toThrowableT := Option.some.inj (hPEs.symm.trans Y.init0)
  have hLs : ∀ P, P ∈ [PR, PE] → P.Links0 e.platform s := fun P hP => by
    simp only [List.mem_cons, List.not_mem_nil, or_false] at hP
    rcases hP with rfl | rfl
    · exact LR
    · exact LEx
  have hsel0 : selectMethod e.platform s.vm P1.m.cls T.fill0 = .method T.fill0 := by
    obtain ⟨c2, r2, m2, q1, q2, q3, q4, -⟩ := Cond.selects_spec (a' (.selects Bundle.nN Bundle.tFill0 Bundle.tFill0) (by simp [Bundle.npeArmAtoms]))
    cases Option.some.inj (q1.symm.trans hfound)
    cases Option.some.inj (q2.symm.trans (State.methodFound?_of_named Y.fill0 (by decide)))
    cases Option.some.inj (q3.symm.trans Y.fill0)
    rw [Launch.admits_selectMethod X.admits]; exact q4
  have hselF : selectMethod e.platform s.vm P1.m.cls T.fill = .method N.fill := by
    obtain ⟨c2, r2, m2, q1, q2, q3, q4, -⟩ := Cond.selects_spec (a' (.selects Bundle.nN Bundle.tFill Bundle.nFill) (by simp [Bundle.npeArmAtoms]))
    cases Option.some.inj (q1.symm.trans hfound)
    cases Option.some.inj (q2.symm.trans (State.methodFound?_of_named Y.fill (by decide)))
    cases Option.some.inj (q3.symm.trans hnNF)
    rw [Launch.admits_selectMethod X.admits]; exact q4
  obtain ⟨cellS0, hcS0, hiss⟩ := Y.statics
  obtain ⟨u0, hu0⟩ := Cond.staticRefV Y.unassigned L.unassignedStatic L.statics hcS0 hiss (a' (.isRef (.static Bundle.tN "UNASSIGNED_STACK" Bundle.steD)) (by simp [Bundle.npeArmAtoms]))
  obtain ⟨sen, hsen⟩ := Cond.staticRefV Y.sentinel L.sentinelStatic L.statics hcS0 hiss (a' (.isRef (.static Bundle.tN "SUPPRESSED_SENTINEL" Bundle.listD)) (by simp [Bundle.npeArmAtoms]))
  obtain ⟨ci198, i198, fB, hk198, hg198, ha198, hsB, -, hnB, htB, hffB⟩ := Cond.ownField (t := .object "java/lang/Object") Y.found L.cls (by decide +kernel) (a' (.fieldLink Bundle.tN 198 Bundle.tN "backtrace" Bundle.objD) (by simp [Bundle.npeArmAtoms])) (a' (.lays Bundle.tN Bundle.tN "backtrace" Bundle.objD) (by simp [Bundle.npeArmAtoms])) e.platform hpl
  obtain ⟨cellS, hcS', heS, -, hkeep⟩ := X.same.2.2.2.2.2 T.aS cellS0 hcS0
  have hcellS : W.heap[T.aS]? = some cellS := hcS'
  have hout' : ∀ i, (⟨T.aS, i⟩ : Loc) ∉ locs := fun i hmem => by
    have := hlocs _ hmem cellS0 hcS0
    rw [hiss] at this; cases this
  have hknownS : cellS.vm ≠ .unknown := by
    rw [heS]; intro hu
    rw [show cellS0.vm = .unknown from hu] at hiss
    cases hiss
  have hvU : cellS.slots[T.fUnassigned.slot]? = some u0.v := by rw [hkeep _ (hout' _)]; exact hu0
  have hvSen : cellS.slots[T.fSentinel.slot]? = some sen.v := by rw [hkeep _ (hout' _)]; exact hsen
  obtain ⟨tyC, dC, hdC, hdnC⟩ := Cond.laysAt hfound hk Y.cause (a' (.lays Bundle.nN Bundle.tN "cause" "Ljava/lang/Throwable;") (by simp [Bundle.npeArmAtoms]))
  obtain ⟨tyS, dS, hdS, hdnS⟩ := Cond.laysAt hfound hk Y.stack (a' (.lays Bundle.nN Bundle.tN "stackTrace" Bundle.steD) (by simp [Bundle.npeArmAtoms]))
  obtain ⟨tyP, dP, hdP, hdnP⟩ := Cond.laysAt hfound hk Y.supp (a' (.lays Bundle.nN Bundle.tN "suppressedExceptions" Bundle.listD) (by simp [Bundle.npeArmAtoms]))
  obtain ⟨tyX, dX, hdX, hdnX⟩ := Cond.laysAt hfound hk hffS (a' (.lays Bundle.nN Bundle.nN "extendedMessageState" "I") (by simp [Bundle.npeArmAtoms, Bundle.npeAtoms]))
  obtain ⟨hnX, htX⟩ := State.fieldFound?_type hffS (t := .int) (by decide +kernel)
  have xC := Cond.laysApart hdC hdX hdnC hdnX (by rw [hnX, Y.causeName]; decide)
  have xS := Cond.laysApart hdS hdX hdnS hdnX (by rw [hnX, Y.stackName]; decide)
  have xP := Cond.laysApart hdP hdX hdnP hdnX (by rw [hnX, Y.suppName]; decide)
  have hv0 : (freshCell P1.m.cls N.kN).slots[N.fState.slot]? = some (.int 0) := by
    have := fresh_default (c := P1.m.cls) tyX
    rw [htX] at this; exact this
  obtain ⟨tyB, dB, hdB, hdnB⟩ := Cond.laysAt hfound hk hffB (a' (.lays Bundle.nN Bundle.tN "backtrace" Bundle.objD) (by simp [Bundle.npeArmAtoms]))
  have bC := Cond.laysApart hdB hdC hdnB hdnC (by rw [hnB, Y.causeName]; decide)
  have bS := Cond.laysApart hdB hdS hdnB hdnS (by rw [hnB, Y.stackName]; decide)
  have bP := Cond.laysApart hdB hdP hdnB hdnP (by rw [hnB, Y.suppName]; decide)
  have bX := Cond.laysApart hdB hdX hdnB hdnX (by rw [hnB, hnX]; decide)
  have hbk : ((npeCell N.toNpeT (preparedCellV T.toThrowableT (freshCell P1.m.cls N.kN) W.heap.size u0 sen) W.cur).withEntry W.cur).slots[fB.slot]? = some .null := by
    have := fresh_default (c := P1.m.cls) tyB
    rw [htB] at this
    simpa [npeCell, preparedCellV, Cell.setSlot, Cell.withEntry, Array.getElem?_setIfInBounds, bC, bS, bP, bX, bC.symm, bS.symm, bP.symm, bX.symm, defaultValue] using this
  have tkC := Takes.of_laid (v := .ref W.heap.size) hk hordN tyC (by rw [Y.causeType]; rfl)
  have tkS := Takes.of_laid (v := u0.v) hk hordN tyS (by rw [Y.stackType]; exact fits_refV_array _ u0)
  have tkP := Takes.of_laid (v := sen.v) hk hordN tyP (by rw [Y.suppType]; exact fits_refV_object _ sen)
  have tkX := Takes.of_laid (v := .int 1) hk hordN tyX (by rw [htX]; rfl)
  have hskip : SkipFacts T e.platform s (fun u => u) u0 ((npeCell N.toNpeT (preparedCellV T.toThrowableT (freshCell P1.m.cls N.kN) W.heap.size u0 sen) W.cur).withEntry W.cur) := ⟨{ ci198 := ci198, i198 := i198, fBack := fB }, ⟨hk198, hg198, ha198, hsB⟩, hbk, fun _ _ => rfl⟩
  obtain ⟨vm', X3, st, -⟩ := X.throwsNpeColdBareVAt hexec hg hsize T L Z LZ N LN P1 L1 [PR, PE] hLs hlink1 ⟨hlinkR, hlinkE, trivial⟩ hfound hk hinit hordN hctor hsel0 hselF hcellS hknownS hvU hvSen
    hv0 xC xS xP tkC tkS tkP tkX Y.objLocals hskip (fun _ _ hA hW _ hroom _ hrest => L.nativeOff p htr hA hW hroom hrest) (by simpa using hRframes) hRlocals (by simp) hRcells (by rw [hn]; exact hRslots)
  have hlt : W.heap.size < ((W.pushCell (freshCell P1.m.cls N.kN)).setVm vm').heap.size := by
    show W.heap.size < (W.pushCell (freshCell P1.m.cls N.kN)).heap.size
    rw [State.heap_size_pushCell]; omega
  rw [hfsz] at X3
  obtain ⟨g₁, hfrM⟩ := X3.frames_eq
  have hU : ((((W.pushCell (freshCell P1.m.cls N.kN)).setVm vm').setCell W.heap.size (npeBareV T.toThrowableT N.toNpeT (freshCell P1.m.cls N.kN) W.heap.size u0 sen)).setTop g).pushFrame (.throwing W.heap.size) = (((W.pushCell (freshCell P1.m.cls N.kN)).setVm vm').setCell W.heap.size (npeBareV T.toThrowableT N.toNpeT (freshCell P1.m.cls N.kN) W.heap.size u0 sen)).setFrames (.throwing W.heap.size :: .java g :: below) := by
    rw [State.pushFrame, State.frames_setTop _ hfrM, State.setTop_of_frames _ hfrM, State.setFrames_setFrames]
  refine ⟨_, W.heap.size, _, fun target ht => st.trans (by rw [← hU]; exact ht), X3.forget (fun y hy => ?_), heapAt_setCell_self _ hlt, hfound, rfl⟩
  simp only [List.mem_cons, List.not_mem_nil, or_false] at hy
  have hge : s.heap.size ≤ W.heap.size := X.same.2.1
  rcases hy with rfl | rfl | rfl | rfl | rfl <;> exact hge
/-- the words of a machine's NullPointerException, but the four that speak of the heap -/
def vx_atN (n : Nat) : List Cond := (Bundle.npeArmAtoms n).filter vx_no
/-- the words of a machine's throw with a message, but the four that speak of the heap -/
def vx_atM (X : String) (names : List String) : List Cond := (Bundle.messageArmAtoms X names).filter vx_no
section
variable {p : Program} {l : Launch} {e : Env} {R : Room} {s : State} {m : MethodId} {args : Array Value} {below : List Frame} {meth : Method} {c : Code} {H : Heap} {locs : List Loc} {cells slots : Nat}
/-- a frame seen from a rebased start, seen from the first start again -/
theorem vx_back9 {T S : State} {R' : Room} {k n : Nat} (X : Stand p l e R s m args below meth c T locs cells slots) (Y : Stand p l e R' ((T.setVm s.vm).setFrames (.invoking m args :: below)) m args below meth c T [] 0 0) (Z : Stand p l e R' ((T.setVm s.vm).setFrames (.invoking m args :: below)) m args below meth c S [] k n) :
    Stand p l e R s m args below meth c S locs (cells + k) (slots + n) := by
  have hW0 : s.WarmedH ((T.setVm s.vm).setFrames (.invoking m args :: below)).vm := State.WarmedH.refl s
  refine { admits := X.admits, cas := X.cas, clock := X.clock, frames := X.frames, room := X.room, hears := X.hears, method := X.method, code := X.code, here := Z.here, tail := Z.tail, warmed := State.WarmedH.trans hW0 Z.warmed, limits := Z.limits.trans (Y.limits.symm.trans X.limits), bytes := Z.bytes.trans (Y.bytes.symm.trans X.bytes), same := ?_ }
  obtain ⟨e1, e2⟩ := Z.same
  rw [State.setFrames_setFrames] at e1
  have h2 : (T.setVm s.vm).sameButNew (S.setVm s.vm) [] k n := ⟨e1, e2⟩
  have h3 := X.same.trans h2
  rw [List.append_nil] at h3
  exact h3
/-- from the machine's note that E is thrown here with this text -/
def vx_Note (p : Program) (l : Launch) (e : Env) (R : Room) (s : State) (m : MethodId) (args : Array Value) (below : List Frame) (meth : Method) (c : Code) (H : Heap) (locs : List Loc) (cells slots : Nat) (Q : State → Prop) (g : JFrame) (E text : String) : Prop :=
  ∀ T : State, T.heap = H → Stand p l e R s m args below meth c T locs cells slots → ∃ t, Steps p.tables e below ((T.setTop g).pushFrame (.throwNew E (some text) none)) t ∧ Q t
theorem vx_vm {pc : Nat} {ls : Array Slot} {rest : List Value} {Q : State → Prop} (hexec : p.tables.exec = Jvm.exec) (hl : l.stackTraces = false) {cls text : String} {names : List String} {nb : Nat} {A : Nat → Prop}
    (hcls : Bundle.fit cls = true) (hnames : ∀ n ∈ names, Bundle.fit n = true) (hsoe : (cls == "java/lang/StackOverflowError") = false) (hoom : (cls == "java/lang/OutOfMemoryError") = false)
    (hat : ∀ w ∈ vx_atM cls names, w.before args s = true) (hgood : ∀ w ∈ vx_atM cls names, vx_ot w = true)
    (hU : vx_Zq Bundle.tN "UNASSIGNED_STACK" Bundle.steD A s s.heap) (hN : vx_Zq Bundle.tN "SUPPRESSED_SENTINEL" Bundle.listD A s s.heap) (hS : va_S A s.heap H locs) (hsize : ls.size = c.maxLocals)
    (htext : (text == notModelled) = false) (hnb : (stringBytes (stringToUtf16 text)).size ≤ nb) (hnb1 : nb ≤ 1000)
    (hRframes : names.length + 4 < R.frames) (hRlocals : (rest.map fun v => v.category).sum + 10240 ≤ R.locals) (hshort : 13 * names.length + 55 ≤ 10240) (hRcells : cells + 3 ≤ R.cells) (hRslots : slots + (nb + 10) ≤ R.slots) (hlocks : meth.locks = false)
    (k : ∀ (H1 : Heap) (q9 : Addr) (ce : Cell), H.size ≤ H1.size → (∀ q : Nat, q < H.size → H1[q]? = H[q]?) → va_S A s.heap H1 locs → H1[q9]? = some ce → ce.vm = .none → s.vm.findClass cls = some ce.cls → vx_W p l e R s m args below meth c H1 locs (cells + 3) (slots + (nb + 10)) Q (F0 m pc ls rest) q9) :
    vx_Note p l e R s m args below meth c H locs cells slots Q (F0 m pc ls rest) cls text := by
  intro T hT X
  have htr : e.platform.stackTraces = false := (show e.platform.stackTraces = l.stackTraces by rw [X.admits.platform]).trans hl
  have Y := vx_rebase X (R' := { frames := R.frames, locals := R.locals, cells := 3, slots := nb + 10 }) (Nat.le_refl _) (Nat.le_refl _) hRcells hRslots
  have hhp : ((T.setVm s.vm).setFrames (.invoking m args :: below)).heap = H := hT
  have hW0 : s.WarmedH ((T.setVm s.vm).setFrames (.invoking m args :: below)).vm := State.WarmedH.refl s
  have hat' : ∀ w ∈ vx_atM cls names, w.before args ((T.setVm s.vm).setFrames (.invoking m args :: below)) = true := fun w hw => vx_ot_at hW0 rfl (hgood w hw) (hat w hw)
  have hU' : vx_Zq Bundle.tN "UNASSIGNED_STACK" Bundle.steD A ((T.setVm s.vm).setFrames (.invoking m args :: below)) ((T.setVm s.vm).setFrames (.invoking m args :: below)).heap := by rw [hhp]; exact vx_Zq.moved hW0.alike (hU.kept hS.2.1)
  have hN' : vx_Zq Bundle.tN "SUPPRESSED_SENTINEL" Bundle.listD A ((T.setVm s.vm).setFrames (.invoking m args :: below)) ((T.setVm s.vm).setFrames (.invoking m args :: below)).heap := by rw [hhp]; exact vx_Zq.moved hW0.alike (hN.kept hS.2.1)
  obtain ⟨S, q, ce, st, Z, hce, hcl', hv⟩ := vx_vmAt Y hexec htr (cls := cls) (names := names) (text := text) hcls hnames hsoe hoom (vx_own hat' (vx_isRefq hU'.1) (vx_isRefq hN'.1) hU'.2.word hN'.2.word) (fun x hx => nomatch hx) htext
    (by rw [Launch.admits_arrayLengthLimit X.admits]; omega) (by rw [Launch.admits_maxHeapBytes X.admits]; simp only [componentBytes]; omega)
    (g := F0 m pc ls rest) rfl hsize hRframes (by show 2 * 0 + (rest.map fun v => v.category).sum + 10240 ≤ R.locals; omega) hshort (by show 0 + 3 ≤ 3; omega) (by show 0 + (_ + 4 + 6) ≤ nb + 10; omega) hlocks
  obtain ⟨f1, f2⟩ := vx_frame Z.same
  have f1' : H.size ≤ S.heap.size := by rw [← hT]; exact f1
  have f2' : ∀ q : Nat, q < H.size → S.heap[q]? = H[q]? := fun q hq => by
    rw [← hT]
    exact f2 q (by rw [← hT] at hq; exact hq) (fun z hz => nomatch hz)
  have X5 := vx_back9 X Y Z
  have X6 : Stand p l e R s m args below meth c S locs (cells + 3) (slots + (nb + 10)) := { X5 with same := X5.same.mono (by omega) (by omega) }
  obtain ⟨t, a1, b1⟩ := k S.heap q ce f1' f2' ⟨Nat.le_trans hS.1 f1', fun q h1 h2 => (f2' q (Nat.lt_of_lt_of_le h1 hS.1)).trans (hS.2.1 q h1 h2), hS.2.2⟩ hce hv hcl' S rfl X6
  exact ⟨t, st t a1, b1⟩
/-- from the machine's note that NullPointerException is thrown here -/
def vx_NoteN (p : Program) (l : Launch) (e : Env) (R : Room) (s : State) (m : MethodId) (args : Array Value) (below : List Frame) (meth : Method) (c : Code) (H : Heap) (locs : List Loc) (cells slots : Nat) (Q : State → Prop) (g : JFrame) : Prop :=
  ∀ T : State, T.heap = H → Stand p l e R s m args below meth c T locs cells slots → ∃ t, Steps p.tables e below ((T.setTop g).pushFrame (.throwNew "java/lang/NullPointerException" none none)) t ∧ Q t
theorem vx_npe {pc : Nat} {ls : Array Slot} {rest : List Value} {Q : State → Prop} (hexec : p.tables.exec = Jvm.exec) (hl : l.stackTraces = false) {nb : Nat} {A : Nat → Prop}
    (hat : ∀ w ∈ vx_atN nb, w.before args s = true) (hgood : ∀ w ∈ vx_atN nb, vx_ot w = true)
    (hU : vx_Zq Bundle.tN "UNASSIGNED_STACK" Bundle.steD A s s.heap) (hN : vx_Zq Bundle.tN "SUPPRESSED_SENTINEL" Bundle.listD A s s.heap) (hS : va_S A s.heap H locs) (hsize : ls.size = c.maxLocals)
    (hRframes : 7 < R.frames) (hRlocals : (rest.map fun v => v.category).sum + 10240 ≤ R.locals) (hRcells : cells + 1 ≤ R.cells) (hRslots : slots + nb ≤ R.slots) (hlocks : meth.locks = false)
    (k : ∀ (H1 : Heap) (q9 : Addr) (ce : Cell), H.size ≤ H1.size → (∀ q : Nat, q < H.size → H1[q]? = H[q]?) → va_S A s.heap H1 locs → H1[q9]? = some ce → ce.vm = .none → s.vm.findClass "java/lang/NullPointerException" = some ce.cls → vx_W p l e R s m args below meth c H1 locs (cells + 1) (slots + nb) Q (F0 m pc ls rest) q9) :
    vx_NoteN p l e R s m args below meth c H locs cells slots Q (F0 m pc ls rest) := by
  intro T hT X
  have htr : e.platform.stackTraces = false := (show e.platform.stackTraces = l.stackTraces by rw [X.admits.platform]).trans hl
  have Y := vx_rebase X (R' := { frames := R.frames, locals := R.locals, cells := 1, slots := nb }) (Nat.le_refl _) (Nat.le_refl _) hRcells hRslots
  have hhp : ((T.setVm s.vm).setFrames (.invoking m args :: below)).heap = H := hT
  have hW0 : s.WarmedH ((T.setVm s.vm).setFrames (.invoking m args :: below)).vm := State.WarmedH.refl s
  have hat' : ∀ w ∈ vx_atN nb, w.before args ((T.setVm s.vm).setFrames (.invoking m args :: below)) = true := fun w hw => vx_ot_at hW0 rfl (hgood w hw) (hat w hw)
  have hU' : vx_Zq Bundle.tN "UNASSIGNED_STACK" Bundle.steD A ((T.setVm s.vm).setFrames (.invoking m args :: below)) ((T.setVm s.vm).setFrames (.invoking m args :: below)).heap := by rw [hhp]; exact vx_Zq.moved hW0.alike (hU.kept hS.2.1)
  have hN' : vx_Zq Bundle.tN "SUPPRESSED_SENTINEL" Bundle.listD A ((T.setVm s.vm).setFrames (.invoking m args :: below)) ((T.setVm s.vm).setFrames (.invoking m args :: below)).heap := by rw [hhp]; exact vx_Zq.moved hW0.alike (hN.kept hS.2.1)
  obtain ⟨S, q, ce, st, Z, hce, hcl', hv⟩ := vx_npeAt Y hexec htr (n := nb) (vx_own hat' (vx_isRefq hU'.1) (vx_isRefq hN'.1) hU'.2.word hN'.2.word) (fun x hx => nomatch hx)
    (g := F0 m pc ls rest) rfl hsize hRframes (by show 2 * 0 + (rest.map fun v => v.category).sum + 10240 ≤ R.locals; omega) (by show 0 + 1 ≤ 1; omega) (by show 0 + nb ≤ nb; omega) hlocks
  obtain ⟨f1, f2⟩ := vx_frame Z.same
  have f1' : H.size ≤ S.heap.size := by rw [← hT]; exact f1
  have f2' : ∀ q : Nat, q < H.size → S.heap[q]? = H[q]? := fun q hq => by
    rw [← hT]
    exact f2 q (by rw [← hT] at hq; exact hq) (fun z hz => nomatch hz)
  have X5 := vx_back9 X Y Z
  have X6 : Stand p l e R s m args below meth c S locs (cells + 1) (slots + nb) := { X5 with same := X5.same.mono (by omega) (by omega) }
  obtain ⟨t, a1, b1⟩ := k S.heap q ce f1' f2' ⟨Nat.le_trans hS.1 f1', fun q h1 h2 => (f2' q (Nat.lt_of_lt_of_le h1 hS.1)).trans (hS.2.1 q h1 h2), hS.2.2⟩ hce hv hcl' S rfl X6
  exact ⟨t, st t a1, b1⟩
variable {Q : State → Prop} {cc : ByteArray} {pc : Nat} {ls : Array Slot} {rest : List Value}
theorem vx_idivZ (hexec : p.tables.exec = Jvm.exec) (hb : c.code = cc) {a b : Int32} (h0 : b = 0) (d : decode cc pc = .ok (.idiv, 1)) (k : vx_Note p l e R s m args below meth c H locs cells slots Q (F0 m pc ls rest) "java/lang/ArithmeticException" "/ by zero") :
    W p l e R s m args below meth c H locs cells slots Q (F0 m pc ls (.int b :: .int a :: rest)) := by
  intro T hT X
  obtain ⟨t, st, q⟩ := k T hT X
  exact ⟨t, X.idivZero hexec (g := F0 m pc ls (.int b :: .int a :: rest)) rfl (a := a) (rest := rest) (by rw [h0]) (by rw [hb]; exact d) t st, q⟩
theorem vx_iremZ (hexec : p.tables.exec = Jvm.exec) (hb : c.code = cc) {a b : Int32} (h0 : b = 0) (d : decode cc pc = .ok (.irem, 1)) (k : vx_Note p l e R s m args below meth c H locs cells slots Q (F0 m pc ls rest) "java/lang/ArithmeticException" "/ by zero") :
    W p l e R s m args below meth c H locs cells slots Q (F0 m pc ls (.int b :: .int a :: rest)) := by
  intro T hT X
  obtain ⟨t, st, q⟩ := k T hT X
  exact ⟨t, X.iremZero hexec (g := F0 m pc ls (.int b :: .int a :: rest)) rfl (a := a) (rest := rest) (by rw [h0]) (by rw [hb]; exact d) t st, q⟩
theorem vx_ldivZ (hexec : p.tables.exec = Jvm.exec) (hb : c.code = cc) {a b : Int64} (h0 : b = 0) (d : decode cc pc = .ok (.ldiv, 1)) (k : vx_Note p l e R s m args below meth c H locs cells slots Q (F0 m pc ls rest) "java/lang/ArithmeticException" "/ by zero") :
    W p l e R s m args below meth c H locs cells slots Q (F0 m pc ls (.long b :: .long a :: rest)) := by
  intro T hT X
  obtain ⟨t, st, q⟩ := k T hT X
  exact ⟨t, X.ldivZero hexec (g := F0 m pc ls (.long b :: .long a :: rest)) rfl (a := a) (rest := rest) (by rw [h0]) (by rw [hb]; exact d) t st, q⟩
theorem vx_lremZ (hexec : p.tables.exec = Jvm.exec) (hb : c.code = cc) {a b : Int64} (h0 : b = 0) (d : decode cc pc = .ok (.lrem, 1)) (k : vx_Note p l e R s m args below meth c H locs cells slots Q (F0 m pc ls rest) "java/lang/ArithmeticException" "/ by zero") :
    W p l e R s m args below meth c H locs cells slots Q (F0 m pc ls (.long b :: .long a :: rest)) := by
  intro T hT X
  obtain ⟨t, st, q⟩ := k T hT X
  exact ⟨t, X.lremZero hexec (g := F0 m pc ls (.long b :: .long a :: rest)) rfl (a := a) (rest := rest) (by rw [h0]) (by rw [hb]; exact d) t st, q⟩
theorem vx_ialdZ {D : va_G} {cl : List vw_C} {ws : va_W} {tys : List (ClassId × FieldType)} {a : Nat} (hexec : p.tables.exec = Jvm.exec) (hb : c.code = cc) (hK : va_K D cl tys s) (hP : va_P D cl ws H) (q0 t0 : Nat) {cA : ClassId} {n : Nat} {f : Nat → Int32} (ha : ws[q0]? = some (a, .inl (cA, n, .inl f))) (ht : tys[t0]? = some (cA, .int)) {i : Int32} (hout : ¬ vp_in i n) (hdg : decode cc pc = .ok (.iaload, 1))
    (k : ∀ tx : String, tx = (toString "Index " ++ toString i ++ toString " out of bounds for length " ++ toString n : String) → vx_Note p l e R s m args below meth c H locs cells slots Q (F0 m pc ls rest) "java/lang/ArrayIndexOutOfBoundsException" tx) : W p l e R s m args below meth c H locs cells slots Q (F0 m pc ls (.int i :: .ref a :: rest)) := by
  intro T hT X
  obtain ⟨t, st, q⟩ := k _ rfl T hT X
  refine ⟨t, ?_, q⟩
  have h1 := X.ialoadOut hexec (by rw [hT]; exact hP q0 _ ha) ((hK.2 t0 _ ht).1 n (fun j => .int (f j))) (j := i) (by show (i < 0 ∨ (arrV _ _ _).slots.size ≤ _); rw [arrV_size]; exact Classical.byContradiction hout) (g := F0 m pc ls (.int i :: .ref a :: rest)) rfl (rest := rest) rfl (by rw [hb]; exact hdg) t
  simp only [arrV_size] at h1
  exact h1 st
theorem vx_iastZ {D : va_G} {cl : List vw_C} {ws : va_W} {tys : List (ClassId × FieldType)} {a : Nat} (hexec : p.tables.exec = Jvm.exec) (hb : c.code = cc) (hK : va_K D cl tys s) (hP : va_P D cl ws H) (q0 t0 : Nat) {cA : ClassId} {n : Nat} {f : Nat → Int32} (ha : ws[q0]? = some (a, .inl (cA, n, .inl f))) (ht : tys[t0]? = some (cA, .int)) {i : Int32} {x : Int32} (hout : ¬ vp_in i n) (hdg : decode cc pc = .ok (.iastore, 1))
    (k : ∀ tx : String, tx = (toString "Index " ++ toString i ++ toString " out of bounds for length " ++ toString n : String) → vx_Note p l e R s m args below meth c H locs cells slots Q (F0 m pc ls rest) "java/lang/ArrayIndexOutOfBoundsException" tx) : W p l e R s m args below meth c H locs cells slots Q (F0 m pc ls (.int x :: .int i :: .ref a :: rest)) := by
  intro T hT X
  obtain ⟨t, st, q⟩ := k _ rfl T hT X
  refine ⟨t, ?_, q⟩
  have h1 := X.iastoreOut hexec (by rw [hT]; exact hP q0 _ ha) ((hK.2 t0 _ ht).1 n (fun j => .int (f j))) (j := i) (by show (i < 0 ∨ (arrV _ _ _).slots.size ≤ _); rw [arrV_size]; exact Classical.byContradiction hout) (g := F0 m pc ls (.int x :: .int i :: .ref a :: rest)) rfl (rest := rest) rfl (by rw [hb]; exact hdg) t
  simp only [arrV_size] at h1
  exact h1 st
theorem vx_baldZ {D : va_G} {cl : List vw_C} {ws : va_W} {tys : List (ClassId × FieldType)} {a : Nat} (hexec : p.tables.exec = Jvm.exec) (hb : c.code = cc) (hK : va_K D cl tys s) (hP : va_P D cl ws H) (q0 t0 : Nat) {cA : ClassId} {n : Nat} {f : Nat → Int32} (ha : ws[q0]? = some (a, .inl (cA, n, .inl f))) (ht : tys[t0]? = some (cA, .byte)) {i : Int32} (hout : ¬ vp_in i n) (hdg : decode cc pc = .ok (.baload, 1))
    (k : ∀ tx : String, tx = (toString "Index " ++ toString i ++ toString " out of bounds for length " ++ toString n : String) → vx_Note p l e R s m args below meth c H locs cells slots Q (F0 m pc ls rest) "java/lang/ArrayIndexOutOfBoundsException" tx) : W p l e R s m args below meth c H locs cells slots Q (F0 m pc ls (.int i :: .ref a :: rest)) := by
  intro T hT X
  obtain ⟨t, st, q⟩ := k _ rfl T hT X
  refine ⟨t, ?_, q⟩
  have h1 := X.baloadOut hexec (by rw [hT]; exact hP q0 _ ha) ((hK.2 t0 _ ht).1 n (fun j => .int (f j))) (j := i) (by show (i < 0 ∨ (arrV _ _ _).slots.size ≤ _); rw [arrV_size]; exact Classical.byContradiction hout) (g := F0 m pc ls (.int i :: .ref a :: rest)) rfl (rest := rest) rfl (by rw [hb]; exact hdg) t
  simp only [arrV_size] at h1
  exact h1 st
theorem vx_bastZ {D : va_G} {cl : List vw_C} {ws : va_W} {tys : List (ClassId × FieldType)} {a : Nat} (hexec : p.tables.exec = Jvm.exec) (hb : c.code = cc) (hK : va_K D cl tys s) (hP : va_P D cl ws H) (q0 t0 : Nat) {cA : ClassId} {n : Nat} {f : Nat → Int32} (ha : ws[q0]? = some (a, .inl (cA, n, .inl f))) (ht : tys[t0]? = some (cA, .byte)) {i : Int32} {x : Int32} (hout : ¬ vp_in i n) (hdg : decode cc pc = .ok (.bastore, 1))
    (k : ∀ tx : String, tx = (toString "Index " ++ toString i ++ toString " out of bounds for length " ++ toString n : String) → vx_Note p l e R s m args below meth c H locs cells slots Q (F0 m pc ls rest) "java/lang/ArrayIndexOutOfBoundsException" tx) : W p l e R s m args below meth c H locs cells slots Q (F0 m pc ls (.int x :: .int i :: .ref a :: rest)) := by
  intro T hT X
  obtain ⟨t, st, q⟩ := k _ rfl T hT X
  refine ⟨t, ?_, q⟩
  have h1 := X.bastoreOut hexec (by rw [hT]; exact hP q0 _ ha) ((hK.2 t0 _ ht).1 n (fun j => .int (f j))) (j := i) (by show (i < 0 ∨ (arrV _ _ _).slots.size ≤ _); rw [arrV_size]; exact Classical.byContradiction hout) (g := F0 m pc ls (.int x :: .int i :: .ref a :: rest)) rfl (rest := rest) rfl (by rw [hb]; exact hdg) t
  simp only [arrV_size] at h1
  exact h1 st
theorem vx_zaldZ {D : va_G} {cl : List vw_C} {ws : va_W} {tys : List (ClassId × FieldType)} {a : Nat} (hexec : p.tables.exec = Jvm.exec) (hb : c.code = cc) (hK : va_K D cl tys s) (hP : va_P D cl ws H) (q0 t0 : Nat) {cA : ClassId} {n : Nat} {f : Nat → Int32} (ha : ws[q0]? = some (a, .inl (cA, n, .inl f))) (ht : tys[t0]? = some (cA, .boolean)) {i : Int32} (hout : ¬ vp_in i n) (hdg : decode cc pc = .ok (.baload, 1))
    (k : ∀ tx : String, tx = (toString "Index " ++ toString i ++ toString " out of bounds for length " ++ toString n : String) → vx_Note p l e R s m args below meth c H locs cells slots Q (F0 m pc ls rest) "java/lang/ArrayIndexOutOfBoundsException" tx) : W p l e R s m args below meth c H locs cells slots Q (F0 m pc ls (.int i :: .ref a :: rest)) := by
  intro T hT X
  obtain ⟨t, st, q⟩ := k _ rfl T hT X
  refine ⟨t, ?_, q⟩
  have h1 := X.baloadOut hexec (by rw [hT]; exact hP q0 _ ha) ((hK.2 t0 _ ht).1 n (fun j => .int (f j))) (j := i) (by show (i < 0 ∨ (arrV _ _ _).slots.size ≤ _); rw [arrV_size]; exact Classical.byContradiction hout) (g := F0 m pc ls (.int i :: .ref a :: rest)) rfl (rest := rest) rfl (by rw [hb]; exact hdg) t
  simp only [arrV_size] at h1
  exact h1 st
theorem vx_zastZ {D : va_G} {cl : List vw_C} {ws : va_W} {tys : List (ClassId × FieldType)} {a : Nat} (hexec : p.tables.exec = Jvm.exec) (hb : c.code = cc) (hK : va_K D cl tys s) (hP : va_P D cl ws H) (q0 t0 : Nat) {cA : ClassId} {n : Nat} {f : Nat → Int32} (ha : ws[q0]? = some (a, .inl (cA, n, .inl f))) (ht : tys[t0]? = some (cA, .boolean)) {i : Int32} {x : Int32} (hout : ¬ vp_in i n) (hdg : decode cc pc = .ok (.bastore, 1))
    (k : ∀ tx : String, tx = (toString "Index " ++ toString i ++ toString " out of bounds for length " ++ toString n : String) → vx_Note p l e R s m args below meth c H locs cells slots Q (F0 m pc ls rest) "java/lang/ArrayIndexOutOfBoundsException" tx) : W p l e R s m args below meth c H locs cells slots Q (F0 m pc ls (.int x :: .int i :: .ref a :: rest)) := by
  intro T hT X
  obtain ⟨t, st, q⟩ := k _ rfl T hT X
  refine ⟨t, ?_, q⟩
  have h1 := X.bastoreOut hexec (by rw [hT]; exact hP q0 _ ha) ((hK.2 t0 _ ht).1 n (fun j => .int (f j))) (j := i) (by show (i < 0 ∨ (arrV _ _ _).slots.size ≤ _); rw [arrV_size]; exact Classical.byContradiction hout) (g := F0 m pc ls (.int x :: .int i :: .ref a :: rest)) rfl (rest := rest) rfl (by rw [hb]; exact hdg) t
  simp only [arrV_size] at h1
  exact h1 st
theorem vx_caldZ {D : va_G} {cl : List vw_C} {ws : va_W} {tys : List (ClassId × FieldType)} {a : Nat} (hexec : p.tables.exec = Jvm.exec) (hb : c.code = cc) (hK : va_K D cl tys s) (hP : va_P D cl ws H) (q0 t0 : Nat) {cA : ClassId} {n : Nat} {f : Nat → Int32} (ha : ws[q0]? = some (a, .inl (cA, n, .inl f))) (ht : tys[t0]? = some (cA, .char)) {i : Int32} (hout : ¬ vp_in i n) (hdg : decode cc pc = .ok (.caload, 1))
    (k : ∀ tx : String, tx = (toString "Index " ++ toString i ++ toString " out of bounds for length " ++ toString n : String) → vx_Note p l e R s m args below meth c H locs cells slots Q (F0 m pc ls rest) "java/lang/ArrayIndexOutOfBoundsException" tx) : W p l e R s m args below meth c H locs cells slots Q (F0 m pc ls (.int i :: .ref a :: rest)) := by
  intro T hT X
  obtain ⟨t, st, q⟩ := k _ rfl T hT X
  refine ⟨t, ?_, q⟩
  have h1 := X.caloadOut hexec (by rw [hT]; exact hP q0 _ ha) ((hK.2 t0 _ ht).1 n (fun j => .int (f j))) (j := i) (by show (i < 0 ∨ (arrV _ _ _).slots.size ≤ _); rw [arrV_size]; exact Classical.byContradiction hout) (g := F0 m pc ls (.int i :: .ref a :: rest)) rfl (rest := rest) rfl (by rw [hb]; exact hdg) t
  simp only [arrV_size] at h1
  exact h1 st
theorem vx_castZ {D : va_G} {cl : List vw_C} {ws : va_W} {tys : List (ClassId × FieldType)} {a : Nat} (hexec : p.tables.exec = Jvm.exec) (hb : c.code = cc) (hK : va_K D cl tys s) (hP : va_P D cl ws H) (q0 t0 : Nat) {cA : ClassId} {n : Nat} {f : Nat → Int32} (ha : ws[q0]? = some (a, .inl (cA, n, .inl f))) (ht : tys[t0]? = some (cA, .char)) {i : Int32} {x : Int32} (hout : ¬ vp_in i n) (hdg : decode cc pc = .ok (.castore, 1))
    (k : ∀ tx : String, tx = (toString "Index " ++ toString i ++ toString " out of bounds for length " ++ toString n : String) → vx_Note p l e R s m args below meth c H locs cells slots Q (F0 m pc ls rest) "java/lang/ArrayIndexOutOfBoundsException" tx) : W p l e R s m args below meth c H locs cells slots Q (F0 m pc ls (.int x :: .int i :: .ref a :: rest)) := by
  intro T hT X
  obtain ⟨t, st, q⟩ := k _ rfl T hT X
  refine ⟨t, ?_, q⟩
  have h1 := X.castoreOut hexec (by rw [hT]; exact hP q0 _ ha) ((hK.2 t0 _ ht).1 n (fun j => .int (f j))) (j := i) (by show (i < 0 ∨ (arrV _ _ _).slots.size ≤ _); rw [arrV_size]; exact Classical.byContradiction hout) (g := F0 m pc ls (.int x :: .int i :: .ref a :: rest)) rfl (rest := rest) rfl (by rw [hb]; exact hdg) t
  simp only [arrV_size] at h1
  exact h1 st
theorem vx_saldZ {D : va_G} {cl : List vw_C} {ws : va_W} {tys : List (ClassId × FieldType)} {a : Nat} (hexec : p.tables.exec = Jvm.exec) (hb : c.code = cc) (hK : va_K D cl tys s) (hP : va_P D cl ws H) (q0 t0 : Nat) {cA : ClassId} {n : Nat} {f : Nat → Int32} (ha : ws[q0]? = some (a, .inl (cA, n, .inl f))) (ht : tys[t0]? = some (cA, .short)) {i : Int32} (hout : ¬ vp_in i n) (hdg : decode cc pc = .ok (.saload, 1))
    (k : ∀ tx : String, tx = (toString "Index " ++ toString i ++ toString " out of bounds for length " ++ toString n : String) → vx_Note p l e R s m args below meth c H locs cells slots Q (F0 m pc ls rest) "java/lang/ArrayIndexOutOfBoundsException" tx) : W p l e R s m args below meth c H locs cells slots Q (F0 m pc ls (.int i :: .ref a :: rest)) := by
  intro T hT X
  obtain ⟨t, st, q⟩ := k _ rfl T hT X
  refine ⟨t, ?_, q⟩
  have h1 := X.saloadOut hexec (by rw [hT]; exact hP q0 _ ha) ((hK.2 t0 _ ht).1 n (fun j => .int (f j))) (j := i) (by show (i < 0 ∨ (arrV _ _ _).slots.size ≤ _); rw [arrV_size]; exact Classical.byContradiction hout) (g := F0 m pc ls (.int i :: .ref a :: rest)) rfl (rest := rest) rfl (by rw [hb]; exact hdg) t
  simp only [arrV_size] at h1
  exact h1 st
theorem vx_sastZ {D : va_G} {cl : List vw_C} {ws : va_W} {tys : List (ClassId × FieldType)} {a : Nat} (hexec : p.tables.exec = Jvm.exec) (hb : c.code = cc) (hK : va_K D cl tys s) (hP : va_P D cl ws H) (q0 t0 : Nat) {cA : ClassId} {n : Nat} {f : Nat → Int32} (ha : ws[q0]? = some (a, .inl (cA, n, .inl f))) (ht : tys[t0]? = some (cA, .short)) {i : Int32} {x : Int32} (hout : ¬ vp_in i n) (hdg : decode cc pc = .ok (.sastore, 1))
    (k : ∀ tx : String, tx = (toString "Index " ++ toString i ++ toString " out of bounds for length " ++ toString n : String) → vx_Note p l e R s m args below meth c H locs cells slots Q (F0 m pc ls rest) "java/lang/ArrayIndexOutOfBoundsException" tx) : W p l e R s m args below meth c H locs cells slots Q (F0 m pc ls (.int x :: .int i :: .ref a :: rest)) := by
  intro T hT X
  obtain ⟨t, st, q⟩ := k _ rfl T hT X
  refine ⟨t, ?_, q⟩
  have h1 := X.sastoreOut hexec (by rw [hT]; exact hP q0 _ ha) ((hK.2 t0 _ ht).1 n (fun j => .int (f j))) (j := i) (by show (i < 0 ∨ (arrV _ _ _).slots.size ≤ _); rw [arrV_size]; exact Classical.byContradiction hout) (g := F0 m pc ls (.int x :: .int i :: .ref a :: rest)) rfl (rest := rest) rfl (by rw [hb]; exact hdg) t
  simp only [arrV_size] at h1
  exact h1 st
theorem vx_laldZ {D : va_G} {cl : List vw_C} {ws : va_W} {tys : List (ClassId × FieldType)} {a : Nat} (hexec : p.tables.exec = Jvm.exec) (hb : c.code = cc) (hK : va_K D cl tys s) (hP : va_P D cl ws H) (q0 t0 : Nat) {cA : ClassId} {n : Nat} {f : Nat → Int64} (ha : ws[q0]? = some (a, .inl (cA, n, .inr (.inl f)))) (ht : tys[t0]? = some (cA, .long)) {i : Int32} (hout : ¬ vp_in i n) (hdg : decode cc pc = .ok (.laload, 1))
    (k : ∀ tx : String, tx = (toString "Index " ++ toString i ++ toString " out of bounds for length " ++ toString n : String) → vx_Note p l e R s m args below meth c H locs cells slots Q (F0 m pc ls rest) "java/lang/ArrayIndexOutOfBoundsException" tx) : W p l e R s m args below meth c H locs cells slots Q (F0 m pc ls (.int i :: .ref a :: rest)) := by
  intro T hT X
  obtain ⟨t, st, q⟩ := k _ rfl T hT X
  refine ⟨t, ?_, q⟩
  have h1 := X.laloadOut hexec (by rw [hT]; exact hP q0 _ ha) ((hK.2 t0 _ ht).1 n (fun j => .long (f j))) (j := i) (by show (i < 0 ∨ (arrV _ _ _).slots.size ≤ _); rw [arrV_size]; exact Classical.byContradiction hout) (g := F0 m pc ls (.int i :: .ref a :: rest)) rfl (rest := rest) rfl (by rw [hb]; exact hdg) t
  simp only [arrV_size] at h1
  exact h1 st
theorem vx_lastZ {D : va_G} {cl : List vw_C} {ws : va_W} {tys : List (ClassId × FieldType)} {a : Nat} (hexec : p.tables.exec = Jvm.exec) (hb : c.code = cc) (hK : va_K D cl tys s) (hP : va_P D cl ws H) (q0 t0 : Nat) {cA : ClassId} {n : Nat} {f : Nat → Int64} (ha : ws[q0]? = some (a, .inl (cA, n, .inr (.inl f)))) (ht : tys[t0]? = some (cA, .long)) {i : Int32} {x : Int64} (hout : ¬ vp_in i n) (hdg : decode cc pc = .ok (.lastore, 1))
    (k : ∀ tx : String, tx = (toString "Index " ++ toString i ++ toString " out of bounds for length " ++ toString n : String) → vx_Note p l e R s m args below meth c H locs cells slots Q (F0 m pc ls rest) "java/lang/ArrayIndexOutOfBoundsException" tx) : W p l e R s m args below meth c H locs cells slots Q (F0 m pc ls (.long x :: .int i :: .ref a :: rest)) := by
  intro T hT X
  obtain ⟨t, st, q⟩ := k _ rfl T hT X
  refine ⟨t, ?_, q⟩
  have h1 := X.lastoreOut hexec (by rw [hT]; exact hP q0 _ ha) ((hK.2 t0 _ ht).1 n (fun j => .long (f j))) (j := i) (by show (i < 0 ∨ (arrV _ _ _).slots.size ≤ _); rw [arrV_size]; exact Classical.byContradiction hout) (g := F0 m pc ls (.long x :: .int i :: .ref a :: rest)) rfl (rest := rest) rfl (by rw [hb]; exact hdg) t
  simp only [arrV_size] at h1
  exact h1 st
theorem vx_faldZ {D : va_G} {cl : List vw_C} {ws : va_W} {tys : List (ClassId × FieldType)} {a : Nat} (hexec : p.tables.exec = Jvm.exec) (hb : c.code = cc) (hK : va_K D cl tys s) (hP : va_P D cl ws H) (q0 t0 : Nat) {cA : ClassId} {n : Nat} {f : Nat → UInt32} (ha : ws[q0]? = some (a, .inl (cA, n, .inr (.inr (.inl f))))) (ht : tys[t0]? = some (cA, .float)) {i : Int32} (hout : ¬ vp_in i n) (hdg : decode cc pc = .ok (.faload, 1))
    (k : ∀ tx : String, tx = (toString "Index " ++ toString i ++ toString " out of bounds for length " ++ toString n : String) → vx_Note p l e R s m args below meth c H locs cells slots Q (F0 m pc ls rest) "java/lang/ArrayIndexOutOfBoundsException" tx) : W p l e R s m args below meth c H locs cells slots Q (F0 m pc ls (.int i :: .ref a :: rest)) := by
  intro T hT X
  obtain ⟨t, st, q⟩ := k _ rfl T hT X
  refine ⟨t, ?_, q⟩
  have h1 := X.faloadOut hexec (by rw [hT]; exact hP q0 _ ha) ((hK.2 t0 _ ht).1 n (fun j => .float (f j))) (j := i) (by show (i < 0 ∨ (arrV _ _ _).slots.size ≤ _); rw [arrV_size]; exact Classical.byContradiction hout) (g := F0 m pc ls (.int i :: .ref a :: rest)) rfl (rest := rest) rfl (by rw [hb]; exact hdg) t
  simp only [arrV_size] at h1
  exact h1 st
theorem vx_fastZ {D : va_G} {cl : List vw_C} {ws : va_W} {tys : List (ClassId × FieldType)} {a : Nat} (hexec : p.tables.exec = Jvm.exec) (hb : c.code = cc) (hK : va_K D cl tys s) (hP : va_P D cl ws H) (q0 t0 : Nat) {cA : ClassId} {n : Nat} {f : Nat → UInt32} (ha : ws[q0]? = some (a, .inl (cA, n, .inr (.inr (.inl f))))) (ht : tys[t0]? = some (cA, .float)) {i : Int32} {x : UInt32} (hout : ¬ vp_in i n) (hdg : decode cc pc = .ok (.fastore, 1))
    (k : ∀ tx : String, tx = (toString "Index " ++ toString i ++ toString " out of bounds for length " ++ toString n : String) → vx_Note p l e R s m args below meth c H locs cells slots Q (F0 m pc ls rest) "java/lang/ArrayIndexOutOfBoundsException" tx) : W p l e R s m args below meth c H locs cells slots Q (F0 m pc ls (.float x :: .int i :: .ref a :: rest)) := by
  intro T hT X
  obtain ⟨t, st, q⟩ := k _ rfl T hT X
  refine ⟨t, ?_, q⟩
  have h1 := X.fastoreOut hexec (by rw [hT]; exact hP q0 _ ha) ((hK.2 t0 _ ht).1 n (fun j => .float (f j))) (j := i) (by show (i < 0 ∨ (arrV _ _ _).slots.size ≤ _); rw [arrV_size]; exact Classical.byContradiction hout) (g := F0 m pc ls (.float x :: .int i :: .ref a :: rest)) rfl (rest := rest) rfl (by rw [hb]; exact hdg) t
  simp only [arrV_size] at h1
  exact h1 st
theorem vx_daldZ {D : va_G} {cl : List vw_C} {ws : va_W} {tys : List (ClassId × FieldType)} {a : Nat} (hexec : p.tables.exec = Jvm.exec) (hb : c.code = cc) (hK : va_K D cl tys s) (hP : va_P D cl ws H) (q0 t0 : Nat) {cA : ClassId} {n : Nat} {f : Nat → UInt64} (ha : ws[q0]? = some (a, .inl (cA, n, .inr (.inr (.inr (.inl f)))))) (ht : tys[t0]? = some (cA, .double)) {i : Int32} (hout : ¬ vp_in i n) (hdg : decode cc pc = .ok (.daload, 1))
    (k : ∀ tx : String, tx = (toString "Index " ++ toString i ++ toString " out of bounds for length " ++ toString n : String) → vx_Note p l e R s m args below meth c H locs cells slots Q (F0 m pc ls rest) "java/lang/ArrayIndexOutOfBoundsException" tx) : W p l e R s m args below meth c H locs cells slots Q (F0 m pc ls (.int i :: .ref a :: rest)) := by
  intro T hT X
  obtain ⟨t, st, q⟩ := k _ rfl T hT X
  refine ⟨t, ?_, q⟩
  have h1 := X.daloadOut hexec (by rw [hT]; exact hP q0 _ ha) ((hK.2 t0 _ ht).1 n (fun j => .double (f j))) (j := i) (by show (i < 0 ∨ (arrV _ _ _).slots.size ≤ _); rw [arrV_size]; exact Classical.byContradiction hout) (g := F0 m pc ls (.int i :: .ref a :: rest)) rfl (rest := rest) rfl (by rw [hb]; exact hdg) t
  simp only [arrV_size] at h1
  exact h1 st
theorem vx_dastZ {D : va_G} {cl : List vw_C} {ws : va_W} {tys : List (ClassId × FieldType)} {a : Nat} (hexec : p.tables.exec = Jvm.exec) (hb : c.code = cc) (hK : va_K D cl tys s) (hP : va_P D cl ws H) (q0 t0 : Nat) {cA : ClassId} {n : Nat} {f : Nat → UInt64} (ha : ws[q0]? = some (a, .inl (cA, n, .inr (.inr (.inr (.inl f)))))) (ht : tys[t0]? = some (cA, .double)) {i : Int32} {x : UInt64} (hout : ¬ vp_in i n) (hdg : decode cc pc = .ok (.dastore, 1))
    (k : ∀ tx : String, tx = (toString "Index " ++ toString i ++ toString " out of bounds for length " ++ toString n : String) → vx_Note p l e R s m args below meth c H locs cells slots Q (F0 m pc ls rest) "java/lang/ArrayIndexOutOfBoundsException" tx) : W p l e R s m args below meth c H locs cells slots Q (F0 m pc ls (.double x :: .int i :: .ref a :: rest)) := by
  intro T hT X
  obtain ⟨t, st, q⟩ := k _ rfl T hT X
  refine ⟨t, ?_, q⟩
  have h1 := X.dastoreOut hexec (by rw [hT]; exact hP q0 _ ha) ((hK.2 t0 _ ht).1 n (fun j => .double (f j))) (j := i) (by show (i < 0 ∨ (arrV _ _ _).slots.size ≤ _); rw [arrV_size]; exact Classical.byContradiction hout) (g := F0 m pc ls (.double x :: .int i :: .ref a :: rest)) rfl (rest := rest) rfl (by rw [hb]; exact hdg) t
  simp only [arrV_size] at h1
  exact h1 st
theorem vx_arraylengthN (hexec : p.tables.exec = Jvm.exec) (hb : c.code = cc) (hdg : decode cc pc = .ok (.arraylength, 1)) (k : vx_NoteN p l e R s m args below meth c H locs cells slots Q (F0 m pc ls rest)) : W p l e R s m args below meth c H locs cells slots Q (F0 m pc ls (.null :: rest)) := by
  intro T hT X
  obtain ⟨t, st, q⟩ := k T hT X
  exact ⟨t, X.arraylengthNull hexec (g := F0 m pc ls (.null :: rest)) rfl (rest := rest) rfl (by rw [hb]; exact hdg) t st, q⟩
theorem vx_ialoadN (hexec : p.tables.exec = Jvm.exec) (hb : c.code = cc) {i : Int32} (hdg : decode cc pc = .ok (.iaload, 1)) (k : vx_NoteN p l e R s m args below meth c H locs cells slots Q (F0 m pc ls rest)) : W p l e R s m args below meth c H locs cells slots Q (F0 m pc ls (.int i :: .null :: rest)) := by
  intro T hT X
  obtain ⟨t, st, q⟩ := k T hT X
  exact ⟨t, X.ialoadNull hexec (g := F0 m pc ls (.int i :: .null :: rest)) rfl (rest := rest) rfl (by rw [hb]; exact hdg) t st, q⟩
theorem vx_laloadN (hexec : p.tables.exec = Jvm.exec) (hb : c.code = cc) {i : Int32} (hdg : decode cc pc = .ok (.laload, 1)) (k : vx_NoteN p l e R s m args below meth c H locs cells slots Q (F0 m pc ls rest)) : W p l e R s m args below meth c H locs cells slots Q (F0 m pc ls (.int i :: .null :: rest)) := by
  intro T hT X
  obtain ⟨t, st, q⟩ := k T hT X
  exact ⟨t, X.laloadNull hexec (g := F0 m pc ls (.int i :: .null :: rest)) rfl (rest := rest) rfl (by rw [hb]; exact hdg) t st, q⟩
theorem vx_faloadN (hexec : p.tables.exec = Jvm.exec) (hb : c.code = cc) {i : Int32} (hdg : decode cc pc = .ok (.faload, 1)) (k : vx_NoteN p l e R s m args below meth c H locs cells slots Q (F0 m pc ls rest)) : W p l e R s m args below meth c H locs cells slots Q (F0 m pc ls (.int i :: .null :: rest)) := by
  intro T hT X
  obtain ⟨t, st, q⟩ := k T hT X
  exact ⟨t, X.faloadNull hexec (g := F0 m pc ls (.int i :: .null :: rest)) rfl (rest := rest) rfl (by rw [hb]; exact hdg) t st, q⟩
theorem vx_daloadN (hexec : p.tables.exec = Jvm.exec) (hb : c.code = cc) {i : Int32} (hdg : decode cc pc = .ok (.daload, 1)) (k : vx_NoteN p l e R s m args below meth c H locs cells slots Q (F0 m pc ls rest)) : W p l e R s m args below meth c H locs cells slots Q (F0 m pc ls (.int i :: .null :: rest)) := by
  intro T hT X
  obtain ⟨t, st, q⟩ := k T hT X
  exact ⟨t, X.daloadNull hexec (g := F0 m pc ls (.int i :: .null :: rest)) rfl (rest := rest) rfl (by rw [hb]; exact hdg) t st, q⟩
theorem vx_aaloadN (hexec : p.tables.exec = Jvm.exec) (hb : c.code = cc) {i : Int32} (hdg : decode cc pc = .ok (.aaload, 1)) (k : vx_NoteN p l e R s m args below meth c H locs cells slots Q (F0 m pc ls rest)) : W p l e R s m args below meth c H locs cells slots Q (F0 m pc ls (.int i :: .null :: rest)) := by
  intro T hT X
  obtain ⟨t, st, q⟩ := k T hT X
  exact ⟨t, X.aaloadNull hexec (g := F0 m pc ls (.int i :: .null :: rest)) rfl (rest := rest) rfl (by rw [hb]; exact hdg) t st, q⟩
theorem vx_baloadN (hexec : p.tables.exec = Jvm.exec) (hb : c.code = cc) {i : Int32} (hdg : decode cc pc = .ok (.baload, 1)) (k : vx_NoteN p l e R s m args below meth c H locs cells slots Q (F0 m pc ls rest)) : W p l e R s m args below meth c H locs cells slots Q (F0 m pc ls (.int i :: .null :: rest)) := by
  intro T hT X
  obtain ⟨t, st, q⟩ := k T hT X
  exact ⟨t, X.baloadNull hexec (g := F0 m pc ls (.int i :: .null :: rest)) rfl (rest := rest) rfl (by rw [hb]; exact hdg) t st, q⟩
theorem vx_caloadN (hexec : p.tables.exec = Jvm.exec) (hb : c.code = cc) {i : Int32} (hdg : decode cc pc = .ok (.caload, 1)) (k : vx_NoteN p l e R s m args below meth c H locs cells slots Q (F0 m pc ls rest)) : W p l e R s m args below meth c H locs cells slots Q (F0 m pc ls (.int i :: .null :: rest)) := by
  intro T hT X
  obtain ⟨t, st, q⟩ := k T hT X
  exact ⟨t, X.caloadNull hexec (g := F0 m pc ls (.int i :: .null :: rest)) rfl (rest := rest) rfl (by rw [hb]; exact hdg) t st, q⟩
theorem vx_saloadN (hexec : p.tables.exec = Jvm.exec) (hb : c.code = cc) {i : Int32} (hdg : decode cc pc = .ok (.saload, 1)) (k : vx_NoteN p l e R s m args below meth c H locs cells slots Q (F0 m pc ls rest)) : W p l e R s m args below meth c H locs cells slots Q (F0 m pc ls (.int i :: .null :: rest)) := by
  intro T hT X
  obtain ⟨t, st, q⟩ := k T hT X
  exact ⟨t, X.saloadNull hexec (g := F0 m pc ls (.int i :: .null :: rest)) rfl (rest := rest) rfl (by rw [hb]; exact hdg) t st, q⟩
theorem vx_iastoreN (hexec : p.tables.exec = Jvm.exec) (hb : c.code = cc) {x : Int32} {i : Int32} (hdg : decode cc pc = .ok (.iastore, 1)) (k : vx_NoteN p l e R s m args below meth c H locs cells slots Q (F0 m pc ls rest)) : W p l e R s m args below meth c H locs cells slots Q (F0 m pc ls (.int x :: .int i :: .null :: rest)) := by
  intro T hT X
  obtain ⟨t, st, q⟩ := k T hT X
  exact ⟨t, X.iastoreNull hexec (g := F0 m pc ls (.int x :: .int i :: .null :: rest)) rfl (rest := rest) rfl (by rw [hb]; exact hdg) t st, q⟩
theorem vx_lastoreN (hexec : p.tables.exec = Jvm.exec) (hb : c.code = cc) {x : Int64} {i : Int32} (hdg : decode cc pc = .ok (.lastore, 1)) (k : vx_NoteN p l e R s m args below meth c H locs cells slots Q (F0 m pc ls rest)) : W p l e R s m args below meth c H locs cells slots Q (F0 m pc ls (.long x :: .int i :: .null :: rest)) := by
  intro T hT X
  obtain ⟨t, st, q⟩ := k T hT X
  exact ⟨t, X.lastoreNull hexec (g := F0 m pc ls (.long x :: .int i :: .null :: rest)) rfl (rest := rest) rfl (by rw [hb]; exact hdg) t st, q⟩
theorem vx_fastoreN (hexec : p.tables.exec = Jvm.exec) (hb : c.code = cc) {x : UInt32} {i : Int32} (hdg : decode cc pc = .ok (.fastore, 1)) (k : vx_NoteN p l e R s m args below meth c H locs cells slots Q (F0 m pc ls rest)) : W p l e R s m args below meth c H locs cells slots Q (F0 m pc ls (.float x :: .int i :: .null :: rest)) := by
  intro T hT X
  obtain ⟨t, st, q⟩ := k T hT X
  exact ⟨t, X.fastoreNull hexec (g := F0 m pc ls (.float x :: .int i :: .null :: rest)) rfl (rest := rest) rfl (by rw [hb]; exact hdg) t st, q⟩
theorem vx_dastoreN (hexec : p.tables.exec = Jvm.exec) (hb : c.code = cc) {x : UInt64} {i : Int32} (hdg : decode cc pc = .ok (.dastore, 1)) (k : vx_NoteN p l e R s m args below meth c H locs cells slots Q (F0 m pc ls rest)) : W p l e R s m args below meth c H locs cells slots Q (F0 m pc ls (.double x :: .int i :: .null :: rest)) := by
  intro T hT X
  obtain ⟨t, st, q⟩ := k T hT X
  exact ⟨t, X.dastoreNull hexec (g := F0 m pc ls (.double x :: .int i :: .null :: rest)) rfl (rest := rest) rfl (by rw [hb]; exact hdg) t st, q⟩
theorem vx_bastoreN (hexec : p.tables.exec = Jvm.exec) (hb : c.code = cc) {x : Int32} {i : Int32} (hdg : decode cc pc = .ok (.bastore, 1)) (k : vx_NoteN p l e R s m args below meth c H locs cells slots Q (F0 m pc ls rest)) : W p l e R s m args below meth c H locs cells slots Q (F0 m pc ls (.int x :: .int i :: .null :: rest)) := by
  intro T hT X
  obtain ⟨t, st, q⟩ := k T hT X
  exact ⟨t, X.bastoreNull hexec (g := F0 m pc ls (.int x :: .int i :: .null :: rest)) rfl (rest := rest) rfl (by rw [hb]; exact hdg) t st, q⟩
theorem vx_castoreN (hexec : p.tables.exec = Jvm.exec) (hb : c.code = cc) {x : Int32} {i : Int32} (hdg : decode cc pc = .ok (.castore, 1)) (k : vx_NoteN p l e R s m args below meth c H locs cells slots Q (F0 m pc ls rest)) : W p l e R s m args below meth c H locs cells slots Q (F0 m pc ls (.int x :: .int i :: .null :: rest)) := by
  intro T hT X
  obtain ⟨t, st, q⟩ := k T hT X
  exact ⟨t, X.castoreNull hexec (g := F0 m pc ls (.int x :: .int i :: .null :: rest)) rfl (rest := rest) rfl (by rw [hb]; exact hdg) t st, q⟩
theorem vx_sastoreN (hexec : p.tables.exec = Jvm.exec) (hb : c.code = cc) {x : Int32} {i : Int32} (hdg : decode cc pc = .ok (.sastore, 1)) (k : vx_NoteN p l e R s m args below meth c H locs cells slots Q (F0 m pc ls rest)) : W p l e R s m args below meth c H locs cells slots Q (F0 m pc ls (.int x :: .int i :: .null :: rest)) := by
  intro T hT X
  obtain ⟨t, st, q⟩ := k T hT X
  exact ⟨t, X.sastoreNull hexec (g := F0 m pc ls (.int x :: .int i :: .null :: rest)) rfl (rest := rest) rfl (by rw [hb]; exact hdg) t st, q⟩
theorem vx_invokeN {own C : String} {index maxL : Nat} {y : MethodName} {bytes : ByteArray} {ret : Option FieldType} (hexec : p.tables.exec = Jvm.exec) (hb : c.code = cc) (hown : s.vm.findClass own = some m.cls) (hlink : (Cond.methodLink own index y).before args s = true) (hinst : (Cond.instanceMethod y).before args s = true) (hcode : (Cond.code y bytes maxL ret).before args s = true) (hsel : (Cond.selects C y y).before args s = true)
    (hx : y.cls ≠ "java/lang/invoke/MethodHandle" ∧ y.cls ≠ "java/lang/invoke/VarHandle") {As : List Value} (hlen : (parseMethodDescriptor y.desc).map (fun d => d.parameters.length) = some As.length) (hdg : decode cc pc = .ok (.invokevirtual index, 3))
    (k : vx_NoteN p l e R s m args below meth c H locs cells slots Q (F0 m pc ls rest)) {st0 : List Value} (hst : st0 = As.reverse ++ .null :: rest) : W p l e R s m args below meth c H locs cells slots Q (F0 m pc ls st0) := by
  intro T hT X
  obtain ⟨r0, r, hn, hrm, hstR, hsigR⟩ := va_Decl.of hinst hcode
  obtain ⟨c2, r2, m2, q1, q2, q3, q4, kP, hkP, hkPi⟩ := Cond.selects_spec hsel
  cases hn.symm.trans q3
  have hl9 : As.length = r.sig.parameters.length := by
    rw [hsigR] at hlen
    exact (Option.some.inj hlen).symm
  obtain ⟨vm', X1, st1⟩ := X.invokevirtualNull hexec hown hlink hn hrm hstR hkP hkPi hx (g := F0 m pc ls st0) rfl (argsL := As) (rest := rest) hl9 hst (by rw [hb]; exact hdg)
  obtain ⟨t, st, q⟩ := k (T.setVm vm') hT X1
  exact ⟨t, st1 t st, q⟩
theorem vx_newarrayZ {atype : ArrayType} (hexec : p.tables.exec = Jvm.exec) (hb : c.code = cc) {n : Int32} (h0 : n < 0) (hdg : decode cc pc = .ok (.newarray atype, 2)) (k : ∀ tx : String, tx = toString n → vx_Note p l e R s m args below meth c H locs cells slots Q (F0 m pc ls rest) "java/lang/NegativeArraySizeException" tx) : W p l e R s m args below meth c H locs cells slots Q (F0 m pc ls (.int n :: rest)) := by
  intro T hT X
  obtain ⟨t, st, q⟩ := k _ rfl T hT X
  exact ⟨t, X.newarrayNegative hexec (g := F0 m pc ls (.int n :: rest)) rfl h0 (rest := rest) rfl (by rw [hb]; exact hdg) t st, q⟩
end
end VXM
/-! ===== END ===== -/
/-! ===== BEGIN an exception as an object: made, kept, thrown later (no traces kept) ===== -/
section VXK
variable {p : Program} {l : Launch} {e : Env} {R : Room} {s : State} {m₀ : MethodId} {args : Array Value} {below : List Frame} {meth : Method} {c : Code} {W : State} {locs : List Loc} {cells slots : Nat}
set_option maxHeartbeats 1000000 in
theorem vx_ctorMadeS (X : Stand p l e R s m₀ args below meth c W locs cells slots) (hexec : p.tables.exec = Jvm.exec) (htr : e.platform.stackTraces = false) {own cls : String} {names : List String} {ic : Nat}
    (hown : s.vm.findClass own = some m₀.cls) (hcls : Bundle.fit cls = true) (hnames : ∀ n ∈ names, Bundle.fit n = true)
    (h : ∀ a ∈ Bundle.ownAtoms own ic cls names, a.before args s = true)
    (hlocs : ∀ x ∈ locs, ∀ cell, s.heap[x.base]? = some cell → cell.vm.isStatics = false)
    {a : Addr} {cX : ClassId} {kX : Class} (hfoundX : s.vm.findClass cls = some cX) (hkX : s.vm.classes[cX]? = some kX) (hcell : W.heap[a]? = some (freshCell cX kX)) (hnew : s.heap.size ≤ a)
    {msg : Value} (hmsg : msg.isRef = true)
    {g : JFrame} (hg : g.method = m₀) (hsize : g.locals.size = c.maxLocals) {rest : List Value} (hstack : g.stack = msg :: .ref a :: .ref a :: rest)
    (hd6 : decode c.code g.pc = .ok (.invokespecial ic, 3))
    (hRframes : names.length + 3 < R.frames) (hRlocals : 2 * g.monitorRoom + ((Value.ref a :: rest).map fun v => v.category).sum + (13 * (names.length + 1) + 42) ≤ R.locals) :
    ∃ (V : State) (ce : Cell) (L : List Loc), Stand p l e R s m₀ args below meth c (V.setCell a ce) (locs ++ L) cells slots ∧ (∀ y ∈ L, y.base = a) ∧ a < V.heap.size ∧ ce.cls = cX ∧ ce.vm = .none ∧
      ∀ target, Steps p.tables e below ((V.setCell a ce).setTop { g with stack := .ref a :: rest, pc := g.pc + 3 }) target → Steps p.tables e below (W.setTop g) target := by
  have howns : e.platform.frameOwnsMonitors = true := by rw [X.admits.platform]
  have hfin : e.platform.finalization = false := by rw [X.admits.platform]
  have hpl : e.platform.magicAccessors = ({} : Platform).magicAccessors := by rw [X.admits.platform]
  have a' : ∀ x, x ∈ Bundle.ownAtoms own ic cls names → x.holds args s none s [] = true := fun x hx => h x hx
  obtain ⟨T, Z0, L, -, Y⟩ := ThrowableC.of_atoms (args := args) howns hfin hpl (fun x hx => h x (by simp [Bundle.ownAtoms, hx]))
  obtain ⟨Z, M, LZ, LM, hnZ⟩ := Init0T.ofS_atoms (args := args) hpl L Y (fun x hx => h x (by simp [Bundle.ownAtoms, hx]))
  obtain ⟨P1, Ps, hlen, L1, hL, hP1m, hlink1, hlink⟩ := Bundle.chainS (args := args) hpl hnZ names cls hcls hnames (fun x hx => h x (by simp [Bundle.ownAtoms, hx]))
  have hfound : s.vm.findClass cls = some P1.m.cls := findClass_of_methodNamed hP1m
  cases Option.some.inj (hfoundX.symm.trans hfound)
  obtain ⟨c1, kX', hc1, hk, hord, -, -, hn6⟩ := Cond.instantiable_spec (a' (.instantiable cls 6) (by simp [Bundle.ownAtoms]))
  cases Option.some.inj (hc1.symm.trans hfound)
  cases Option.some.inj (hkX.symm.trans hk)
  have hsel0 : selectMethod e.platform s.vm P1.m.cls T.fill0 = .method T.fill0 := by
    obtain ⟨c2, r2, m2, q1, q2, q3, q4, -⟩ := Cond.selects_spec (a' (.selects cls Bundle.tFill0 Bundle.tFill0) (by simp [Bundle.ownAtoms]))
    cases Option.some.inj (q1.symm.trans hfound)
    cases Option.some.inj (q2.symm.trans (State.methodFound?_of_named Y.fill0 (by decide)))
    cases Option.some.inj (q3.symm.trans Y.fill0)
    rw [Launch.admits_selectMethod X.admits]; exact q4
  have hselF : selectMethod e.platform s.vm P1.m.cls T.fill = .method T.fill := by
    obtain ⟨c2, r2, m2, q1, q2, q3, q4, -⟩ := Cond.selects_spec (a' (.selects cls Bundle.tFill Bundle.tFill) (by simp [Bundle.ownAtoms]))
    cases Option.some.inj (q1.symm.trans hfound)
    cases Option.some.inj (q2.symm.trans (State.methodFound?_of_named Y.fill (by decide)))
    cases Option.some.inj (q3.symm.trans Y.fill)
    rw [Launch.admits_selectMethod X.admits]; exact q4
  obtain ⟨cellS0, hcS0, hiss⟩ := Y.statics
  obtain ⟨u0, hu0⟩ := Cond.staticRefV Y.unassigned L.unassignedStatic L.statics hcS0 hiss (a' (.isRef (.static Bundle.tN "UNASSIGNED_STACK" Bundle.steD)) (by simp [Bundle.ownAtoms]))
  obtain ⟨sen, hsen⟩ := Cond.staticRefV Y.sentinel L.sentinelStatic L.statics hcS0 hiss (a' (.isRef (.static Bundle.tN "SUPPRESSED_SENTINEL" Bundle.listD)) (by simp [Bundle.ownAtoms]))
  obtain ⟨ci198, i198, fB, hk198, hg198, ha198, hsB, -, hnB, htB, hffB⟩ := Cond.ownField (t := .object "java/lang/Object") Y.found L.cls (by decide +kernel) (a' (.fieldLink Bundle.tN 198 Bundle.tN "backtrace" "Ljava/lang/Object;") (by simp [Bundle.ownAtoms])) (a' (.lays Bundle.tN Bundle.tN "backtrace" "Ljava/lang/Object;") (by simp [Bundle.ownAtoms])) e.platform hpl
  obtain ⟨cellS, hcS', heS, -, hkeep⟩ := X.same.2.2.2.2.2 T.aS cellS0 hcS0
  have hcellS : W.heap[T.aS]? = some cellS := hcS'
  have hout' : ∀ i, (⟨T.aS, i⟩ : Loc) ∉ locs := fun i hmem => by
    have := hlocs _ hmem cellS0 hcS0
    rw [hiss] at this; cases this
  have hknownS : cellS.vm ≠ .unknown := by
    rw [heS]; intro hu
    rw [show cellS0.vm = .unknown from hu] at hiss
    cases hiss
  have hneS : T.aS ≠ a := Nat.ne_of_lt (Nat.lt_of_lt_of_le (Array.getElem?_eq_some_iff.mp hcS0).1 hnew)
  obtain ⟨iM, hffM⟩ := Y.msg
  obtain ⟨tyC, dC, hdC, hdnC⟩ := Cond.laysAt hfound hk Y.cause (a' (.lays cls Bundle.tN "cause" "Ljava/lang/Throwable;") (by simp [Bundle.ownAtoms]))
  obtain ⟨tyS, dS, hdS, hdnS⟩ := Cond.laysAt hfound hk Y.stack (a' (.lays cls Bundle.tN "stackTrace" Bundle.steD) (by simp [Bundle.ownAtoms]))
  obtain ⟨tyP, dP, hdP, hdnP⟩ := Cond.laysAt hfound hk Y.supp (a' (.lays cls Bundle.tN "suppressedExceptions" Bundle.listD) (by simp [Bundle.ownAtoms]))
  obtain ⟨tyM, dM, hdM, hdnM⟩ := Cond.laysAt hfound hk hffM (a' (.lays cls Bundle.tN "detailMessage" "Ljava/lang/String;") (by simp [Bundle.ownAtoms]))
  obtain ⟨tyB, dB, hdB, hdnB⟩ := Cond.laysAt hfound hk hffB (a' (.lays cls Bundle.tN "backtrace" "Ljava/lang/Object;") (by simp [Bundle.ownAtoms]))
  have bC := Cond.laysApart hdB hdC hdnB hdnC (by rw [hnB, Y.causeName]; decide)
  have bS := Cond.laysApart hdB hdS hdnB hdnS (by rw [hnB, Y.stackName]; decide)
  have bP := Cond.laysApart hdB hdP hdnB hdnP (by rw [hnB, Y.suppName]; decide)
  have hskip : SkipFacts T e.platform s (fun u => u) u0 ((preparedCellV T.toThrowableT (freshCell P1.m.cls kX) a u0 sen).withEntry W.cur) :=
    ⟨{ ci198 := ci198, i198 := i198, fBack := fB }, ⟨hk198, hg198, ha198, hsB⟩, by
      have := fresh_default (c := P1.m.cls) tyB
      rw [htB] at this
      simpa [preparedCellV, Cell.setSlot, Cell.withEntry, Array.getElem?_setIfInBounds, bC, bS, bP, bC.symm, bS.symm, bP.symm, defaultValue] using this, fun _ _ => rfl⟩
  obtain ⟨tm, methC, cdC, kC, vm₁, hnC, -, -, -, -, -, -, -, hW₁, st1⟩ := Steps.initColdS (tb := p.tables) (e := e) (below := below) (s := s) (U := W) X.here hexec X.warmed hpl hown (t := Bundle.initS cls) rfl rfl (Bundle.fit_spec hcls).2
    (a' (.methodLink own ic (Bundle.initS cls)) (by simp [Bundle.ownAtoms])) (h (.instanceMethod (Bundle.initS cls)) (by cases names <;> simp [Bundle.ownAtoms, Bundle.chainSAtoms, Bundle.passSAtoms])) (bytes := Bundle.six) (maxL := 2) (h (.code (Bundle.initS cls) Bundle.six 2 none) (by cases names <;> simp [Bundle.ownAtoms, Bundle.chainSAtoms, Bundle.passSAtoms]))
    (f := g) hg (a := a) (msg := msg) (rest := .ref a :: rest) hstack hd6
  cases Option.some.inj (hnC.symm.trans hP1m)
  have X₁ := X.noted hW₁
  obtain ⟨vm₂, X₂, st2⟩ := X₁.ctorMessageOffV hexec (g := { g with stack := .ref a :: rest }) hg hsize T L Z LZ M LM (P1 :: Ps)
    (fun P hP => by rcases List.mem_cons.mp hP with rfl | hP; exact L1; exact hL P hP) ⟨hlink1, hlink⟩ (u0 := u0) (sen := sen) (self := a) hmsg (cell := freshCell P1.m.cls kX) (cellS := cellS)
    hcell (fun _ => by simp) (by simp) rfl rfl hsel0 hselF hcellS hneS hknownS (by rw [hkeep _ (hout' _)]; exact hu0) (by rw [hkeep _ (hout' _)]; exact hsen)
    (Takes.of_laid hk hord tyC (by rw [Y.causeType]; rfl)) (Takes.of_laid hk hord tyS (by rw [Y.stackType]; exact fits_refV_array _ u0)) (Takes.of_laid hk hord tyP (by rw [Y.suppType]; exact fits_refV_object _ sen))
    (Takes.of_laid hk hord tyM (by rw [Y.msgType]; exact fits_refV_object _ ⟨msg, hmsg⟩)) Y.objLocals hskip htr [] hd6
    (by simp only [List.length_cons, hlen]; omega) (by simp only [List.length_cons, hlen]; exact hRlocals)
  have hlt : a < ((W.setVm vm₁).setVm vm₂).heap.size := (Array.getElem?_eq_some_iff.mp hcell).1
  refine ⟨(W.setVm vm₁).setVm vm₂, _, _, X₂, fun y hy => ?_, hlt, rfl, rfl, fun target hwalk => st1 _ (fun acts => ?_)⟩
  · simp only [List.mem_cons, List.not_mem_nil, or_false] at hy
    rcases hy with rfl | rfl | rfl | rfl | rfl <;> rfl
  · rw [doInvoke_state]
    exact st2 _ hwalk
set_option maxHeartbeats 1000000 in
theorem vx_ctorMade0 (X : Stand p l e R s m₀ args below meth c W locs cells slots) (hexec : p.tables.exec = Jvm.exec) (htr : e.platform.stackTraces = false) {own cls : String} {names : List String} {ic : Nat}
    (hown : s.vm.findClass own = some m₀.cls) (hcls : Bundle.fit cls = true) (hnames : ∀ n ∈ names, Bundle.fit n = true)
    (h : ∀ a ∈ Bundle.ownAtoms0 own ic cls names, a.before args s = true)
    (hlocs : ∀ x ∈ locs, ∀ cell, s.heap[x.base]? = some cell → cell.vm.isStatics = false)
    {a : Addr} {cX : ClassId} {kX : Class} (hfoundX : s.vm.findClass cls = some cX) (hkX : s.vm.classes[cX]? = some kX) (hcell : W.heap[a]? = some (freshCell cX kX)) (hnew : s.heap.size ≤ a)
    {g : JFrame} (hg : g.method = m₀) (hsize : g.locals.size = c.maxLocals) {rest : List Value} (hstack : g.stack = .ref a :: .ref a :: rest)
    (hd6 : decode c.code g.pc = .ok (.invokespecial ic, 3))
    (hRframes : names.length + 3 < R.frames) (hRlocals : 2 * g.monitorRoom + ((Value.ref a :: rest).map fun v => v.category).sum + (13 * (names.length + 1) + 41) ≤ R.locals) :
    ∃ (V : State) (ce : Cell) (L : List Loc), Stand p l e R s m₀ args below meth c (V.setCell a ce) (locs ++ L) cells slots ∧ (∀ y ∈ L, y.base = a) ∧ a < V.heap.size ∧ ce.cls = cX ∧ ce.vm = .none ∧
      ∀ target, Steps p.tables e below ((V.setCell a ce).setTop { g with stack := .ref a :: rest, pc := g.pc + 3 }) target → Steps p.tables e below (W.setTop g) target := by
  have howns : e.platform.frameOwnsMonitors = true := by rw [X.admits.platform]
  have hfin : e.platform.finalization = false := by rw [X.admits.platform]
  have hpl : e.platform.magicAccessors = ({} : Platform).magicAccessors := by rw [X.admits.platform]
  have a' : ∀ x, x ∈ Bundle.ownAtoms0 own ic cls names → x.holds args s none s [] = true := fun x hx => h x hx
  obtain ⟨T, Z, L, LZ, Y⟩ := ThrowableC.of_atoms (args := args) howns hfin hpl (fun x hx => h x (by simp [Bundle.ownAtoms0, hx]))
  obtain ⟨P1, Ps, hlen, L1, hL, hP1m, hlink1, hlink⟩ := Bundle.chain0 (args := args) hpl Y.init0 names cls hcls hnames (fun x hx => h x (by simp [Bundle.ownAtoms0, hx]))
  have hfound : s.vm.findClass cls = some P1.m.cls := findClass_of_methodNamed hP1m
  cases Option.some.inj (hfoundX.symm.trans hfound)
  obtain ⟨c1, kX', hc1, hk, hord, -, -, hn6⟩ := Cond.instantiable_spec (a' (.instantiable cls 6) (by simp [Bundle.ownAtoms0]))
  cases Option.some.inj (hc1.symm.trans hfound)
  cases Option.some.inj (hkX.symm.trans hk)
  have hsel0 : selectMethod e.platform s.vm P1.m.cls T.fill0 = .method T.fill0 := by
    obtain ⟨c2, r2, m2, q1, q2, q3, q4, -⟩ := Cond.selects_spec (a' (.selects cls Bundle.tFill0 Bundle.tFill0) (by simp [Bundle.ownAtoms0]))
    cases Option.some.inj (q1.symm.trans hfound)
    cases Option.some.inj (q2.symm.trans (State.methodFound?_of_named Y.fill0 (by decide)))
    cases Option.some.inj (q3.symm.trans Y.fill0)
    rw [Launch.admits_selectMethod X.admits]; exact q4
  have hselF : selectMethod e.platform s.vm P1.m.cls T.fill = .method T.fill := by
    obtain ⟨c2, r2, m2, q1, q2, q3, q4, -⟩ := Cond.selects_spec (a' (.selects cls Bundle.tFill Bundle.tFill) (by simp [Bundle.ownAtoms0]))
    cases Option.some.inj (q1.symm.trans hfound)
    cases Option.some.inj (q2.symm.trans (State.methodFound?_of_named Y.fill (by decide)))
    cases Option.some.inj (q3.symm.trans Y.fill)
    rw [Launch.admits_selectMethod X.admits]; exact q4
  obtain ⟨cellS0, hcS0, hiss⟩ := Y.statics
  obtain ⟨u0, hu0⟩ := Cond.staticRefV Y.unassigned L.unassignedStatic L.statics hcS0 hiss (a' (.isRef (.static Bundle.tN "UNASSIGNED_STACK" Bundle.steD)) (by simp [Bundle.ownAtoms0]))
  obtain ⟨sen, hsen⟩ := Cond.staticRefV Y.sentinel L.sentinelStatic L.statics hcS0 hiss (a' (.isRef (.static Bundle.tN "SUPPRESSED_SENTINEL" Bundle.listD)) (by simp [Bundle.ownAtoms0]))
  obtain ⟨ci198, i198, fB, hk198, hg198, ha198, hsB, -, hnB, htB, hffB⟩ := Cond.ownField (t := .object "java/lang/Object") Y.found L.cls (by decide +kernel) (a' (.fieldLink Bundle.tN 198 Bundle.tN "backtrace" "Ljava/lang/Object;") (by simp [Bundle.ownAtoms0])) (a' (.lays Bundle.tN Bundle.tN "backtrace" "Ljava/lang/Object;") (by simp [Bundle.ownAtoms0])) e.platform hpl
  obtain ⟨cellS, hcS', heS, -, hkeep⟩ := X.same.2.2.2.2.2 T.aS cellS0 hcS0
  have hcellS : W.heap[T.aS]? = some cellS := hcS'
  have hout' : ∀ i, (⟨T.aS, i⟩ : Loc) ∉ locs := fun i hmem => by
    have := hlocs _ hmem cellS0 hcS0
    rw [hiss] at this; cases this
  have hknownS : cellS.vm ≠ .unknown := by
    rw [heS]; intro hu
    rw [show cellS0.vm = .unknown from hu] at hiss
    cases hiss
  have hneS : T.aS ≠ a := Nat.ne_of_lt (Nat.lt_of_lt_of_le (Array.getElem?_eq_some_iff.mp hcS0).1 hnew)
  obtain ⟨iM, hffM⟩ := Y.msg
  obtain ⟨tyC, dC, hdC, hdnC⟩ := Cond.laysAt hfound hk Y.cause (a' (.lays cls Bundle.tN "cause" "Ljava/lang/Throwable;") (by simp [Bundle.ownAtoms0]))
  obtain ⟨tyS, dS, hdS, hdnS⟩ := Cond.laysAt hfound hk Y.stack (a' (.lays cls Bundle.tN "stackTrace" Bundle.steD) (by simp [Bundle.ownAtoms0]))
  obtain ⟨tyP, dP, hdP, hdnP⟩ := Cond.laysAt hfound hk Y.supp (a' (.lays cls Bundle.tN "suppressedExceptions" Bundle.listD) (by simp [Bundle.ownAtoms0]))
  obtain ⟨tyM, dM, hdM, hdnM⟩ := Cond.laysAt hfound hk hffM (a' (.lays cls Bundle.tN "detailMessage" "Ljava/lang/String;") (by simp [Bundle.ownAtoms0]))
  obtain ⟨tyB, dB, hdB, hdnB⟩ := Cond.laysAt hfound hk hffB (a' (.lays cls Bundle.tN "backtrace" "Ljava/lang/Object;") (by simp [Bundle.ownAtoms0]))
  have bC := Cond.laysApart hdB hdC hdnB hdnC (by rw [hnB, Y.causeName]; decide)
  have bS := Cond.laysApart hdB hdS hdnB hdnS (by rw [hnB, Y.stackName]; decide)
  have bP := Cond.laysApart hdB hdP hdnB hdnP (by rw [hnB, Y.suppName]; decide)
  have hskip : SkipFacts T e.platform s (fun u => u) u0 ((preparedCellV T.toThrowableT (freshCell P1.m.cls kX) a u0 sen).withEntry W.cur) :=
    ⟨{ ci198 := ci198, i198 := i198, fBack := fB }, ⟨hk198, hg198, ha198, hsB⟩, by
      have := fresh_default (c := P1.m.cls) tyB
      rw [htB] at this
      simpa [preparedCellV, Cell.setSlot, Cell.withEntry, Array.getElem?_setIfInBounds, bC, bS, bP, bC.symm, bS.symm, bP.symm, defaultValue] using this, fun _ _ => rfl⟩
  obtain ⟨tm, methC, cdC, kC, vm₁, hnC, -, -, -, -, -, -, -, hW₁, st1⟩ := Steps.initCold (tb := p.tables) (e := e) (below := below) (s := s) (U := W) X.here hexec X.warmed hpl hown (t := Bundle.init0 cls) rfl rfl (Bundle.fit_spec hcls).2
    (a' (.methodLink own ic (Bundle.init0 cls)) (by simp [Bundle.ownAtoms0])) (h (.instanceMethod (Bundle.init0 cls)) (by cases names <;> simp [Bundle.ownAtoms0, Bundle.chain0Atoms, Bundle.passAtoms])) (bytes := Bundle.five) (maxL := 1) (h (.code (Bundle.init0 cls) Bundle.five 1 none) (by cases names <;> simp [Bundle.ownAtoms0, Bundle.chain0Atoms, Bundle.passAtoms]))
    (f := g) hg (a := a) (rest := .ref a :: rest) hstack hd6
  cases Option.some.inj (hnC.symm.trans hP1m)
  have X₁ := X.noted hW₁
  obtain ⟨vm₂, X₂, st2⟩ := X₁.ctorPlainOffV hexec (g := { g with stack := .ref a :: rest }) hg hsize T L Z LZ (P1 :: Ps)
    (fun P hP => by rcases List.mem_cons.mp hP with rfl | hP; exact L1; exact hL P hP) ⟨hlink1, hlink⟩ (u0 := u0) (sen := sen) (self := a) (cell := freshCell P1.m.cls kX) (cellS := cellS)
    hcell (fun _ => by simp) (by simp) rfl rfl hsel0 hselF hcellS hneS hknownS (by rw [hkeep _ (hout' _)]; exact hu0) (by rw [hkeep _ (hout' _)]; exact hsen)
    (Takes.of_laid hk hord tyC (by rw [Y.causeType]; rfl)) (Takes.of_laid hk hord tyS (by rw [Y.stackType]; exact fits_refV_array _ u0)) (Takes.of_laid hk hord tyP (by rw [Y.suppType]; exact fits_refV_object _ sen)) Y.objLocals hskip htr [] hd6
    (by simp only [List.length_cons, hlen]; omega) (by simp only [List.length_cons, hlen]; exact hRlocals)
  have hlt : a < ((W.setVm vm₁).setVm vm₂).heap.size := (Array.getElem?_eq_some_iff.mp hcell).1
  refine ⟨(W.setVm vm₁).setVm vm₂, _, _, X₂, fun y hy => ?_, hlt, rfl, rfl, fun target hwalk => st1 _ (fun acts => ?_)⟩
  · simp only [List.mem_cons, List.not_mem_nil, or_false] at hy
    rcases hy with rfl | rfl | rfl | rfl <;> rfl
  · rw [doInvoke_state]
    exact st2 _ hwalk
end VXK
section VXK2
variable {p : Program} {l : Launch} {e : Env} {R : Room} {s : State} {m : MethodId} {args : Array Value} {below : List Frame} {meth : Method} {c : Code} {H : Heap} {locs : List Loc} {cells slots : Nat} {Q : State → Prop}
variable {ls : Array Slot} {rest : List Value} {D : va_G} {cl : List vw_C} {tys : List (ClassId × FieldType)} {ws : va_W}
/-- 'new E("text")' that isn't thrown at once: the object goes on the stack -/
theorem vx_makeS {cc : ByteArray} {pc : Nat} (hexec : p.tables.exec = Jvm.exec) (hb : c.code = cc) (hl : l.stackTraces = false) {own cls text : String} {names : List String} {ik is ic sa ci : Nat} {A : Nat → Prop} {T0 : u_T}
    (hown : s.vm.findClass own = some m.cls) (hcls : Bundle.fit cls = true) (hnames : ∀ n ∈ names, Bundle.fit n = true)
    (hk : (Cond.classLink own ik cls).before args s = true) (hini : (Cond.initialized cls).before args s = true) (hstr : vk_R own is text sa s) (hat : ∀ w ∈ vx_atS own ic cls names, w.before args s = true)
    (hgood : ∀ w ∈ Cond.classLink own ik cls :: Cond.initialized cls :: vx_atS own ic cls names, vx_ot w = true)
    (hU : vx_Zq Bundle.tN "UNASSIGNED_STACK" Bundle.steD A s s.heap) (hN : vx_Zq Bundle.tN "SUPPRESSED_SENTINEL" Bundle.listD A s s.heap) (hS : va_S A s.heap H locs) (hsize : ls.size = c.maxLocals)
    (d0 : decode cc pc = .ok (.new ik, 3)) (d3 : decode cc (pc + 3) = .ok (.dup, 1)) (d4 : decode cc (pc + 4) = .ok (.ldc is, 2)) (d6 : decode cc (pc + 6) = .ok (.invokespecial ic, 3))
    (hK : va_K D cl tys s) (hP : va_P D cl ws H) (hD : va_D A ws) (hA : ∀ q, s.heap.size ≤ q → A q) (hc : cl[ci]? = some (cls, T0, 0))
    (hRframes : names.length + 3 < R.frames) (hRlocals : (rest.map fun v => v.category).sum + (13 * (names.length + 1) + 43) ≤ R.locals) (hRcells : cells + 1 ≤ R.cells) (hRslots : slots + 6 ≤ R.slots)
    (kk : ∀ (q : Nat) (H1 : Heap), va_P D cl (ws ++ [(q, .inr (ci, []))]) H1 → va_D A (ws ++ [(q, .inr (ci, []))]) → va_S A s.heap H1 locs → W p l e R s m args below meth c H1 locs (cells + 1) (slots + 6) Q (F0 m (pc + 9) ls (.ref q :: rest))) :
    W p l e R s m args below meth c H locs cells slots Q (F0 m pc ls rest) := by
  intro T hT X
  subst hT
  have htr : e.platform.stackTraces = false := (show e.platform.stackTraces = l.stackTraces by rw [X.admits.platform]).trans hl
  have Y := vx_rebase X (R' := { frames := R.frames, locals := R.locals, cells := 1, slots := 6 }) (Nat.le_refl _) (Nat.le_refl _) hRcells hRslots
  obtain ⟨s', hA'⟩ : ∃ z, z = (T.setVm s.vm).setFrames (.invoking m args :: below) := ⟨_, rfl⟩
  rw [← hA'] at Y
  have hvm : s'.vm = s.vm := by rw [hA']; rfl
  have hhp : s'.heap = T.heap := by rw [hA']; rfl
  have hW0 : s.WarmedH s'.vm := by rw [hvm]; exact State.WarmedH.refl s
  have hat' : ∀ w ∈ vx_atS own ic cls names, w.before args s' = true := fun w hw => vx_ot_at hW0 hvm.symm (hgood w (List.mem_cons_of_mem _ (List.mem_cons_of_mem _ hw))) (hat w hw)
  have hk' : (Cond.classLink own ik cls).before args s' = true := vx_ot_at hW0 hvm.symm (hgood _ List.mem_cons_self) hk
  have hini' : (Cond.initialized cls).before args s' = true := vx_ot_at hW0 hvm.symm (hgood _ (List.mem_cons_of_mem _ List.mem_cons_self)) hini
  have hU' : vx_Zq Bundle.tN "UNASSIGNED_STACK" Bundle.steD A s' s'.heap := by rw [hhp]; exact vx_Zq.moved hW0.alike (hU.kept hS.2.1)
  have hN' : vx_Zq Bundle.tN "SUPPRESSED_SENTINEL" Bundle.listD A s' s'.heap := by rw [hhp]; exact vx_Zq.moved hW0.alike (hN.kept hS.2.1)
  have h : ∀ w ∈ Bundle.ownAtoms own ic cls names, w.before args s' = true := vx_own hat' (vx_isRefq hU'.1) (vx_isRefq hN'.1) hU'.2.word hN'.2.word
  have hown' : s'.vm.findClass own = some m.cls := by rw [hvm]; exact hown
  have hins : (Cond.instantiable cls 6).before args s' = true := h _ (by simp [Bundle.ownAtoms])
  obtain ⟨vm₁, cX, kX, hfX, hkX, -, -, X₁, st1⟩ := Y.newCold hexec (own := own) (C := cls) (index := ik) (n := 6) hown' hk' hins hini'
    (g := F0 m pc ls rest) rfl (by rw [hb]; exact d0) (Nat.le_refl _) (Nat.le_refl _)
  generalize hT1 : (T.setVm vm₁).pushCell { cls := cX, slots := kX.instanceTypes.map defaultValue, vm := .none } = T1 at X₁ st1
  have hcat : (Value.ref T.heap.size).category = 1 := rfl
  have hcellA : T1.heap[T.heap.size]? = some (freshCell cX kX) := by rw [← hT1]; exact State.heap_pushCell_size _ _
  have d3' : decode c.code (pc + 3) = .ok (.dup, 1) := by rw [hb]; exact d3
  have d4' : decode c.code (pc + 4) = .ok (.ldc is, 2) := by rw [hb]; exact d4
  have hstr' : vk_R own is text sa s' := vk_R.warm hW0 hstr
  obtain ⟨V, ce, L, Z, hL, hlt, hcl9, hvm9, st⟩ := vx_ctorMadeS X₁ hexec htr (own := own) (cls := cls) (names := names) (ic := ic) hown' hcls hnames h (fun x hx => nomatch hx) hfX hkX hcellA (by rw [hhp]; exact Nat.le_refl _) (msg := .ref sa) rfl
    (g := { method := m, pc := pc + 6, locals := ls, stack := .ref sa :: .ref T.heap.size :: .ref T.heap.size :: rest, locked := none }) rfl hsize (rest := rest) rfl
    (by rw [hb]; exact d6) hRframes (by simp only [List.map_cons, List.sum_cons, hcat]; omega)
  have Z0 := Stand.forget (locs := []) Z (fun y hy => by rw [hL y hy, hhp]; exact Nat.le_refl _)
  obtain ⟨f1, f2⟩ := vx_frame Z0.same
  rw [hhp] at f1 f2
  have hcid : ce.cls = D.1 ci := by
    rw [hcl9]
    have h1 := (hK.1 ci _ hc).2.1
    rw [hvm] at hfX
    exact Option.some.inj (hfX.symm.trans h1)
  have hh : (V.setCell T.heap.size ce).heap[T.heap.size]? = some ce := heapAt_setCell_self (s := V) ce hlt
  subst hA'
  have X5 := vx_back9 X Y Z0
  have X6 : Stand p l e R s m args below meth c (V.setCell T.heap.size ce) locs (cells + 1) (slots + 6) := { X5 with same := X5.same.mono (by omega) (by omega) }
  have hk9 : ∀ (k : Nat) (x : Nat × va_E), ws[k]? = some x → (V.setCell T.heap.size ce).heap[x.1]? = T.heap[x.1]? := fun k x hx => f2 x.1 ((hP k x hx).lt) (fun z hz => nomatch hz)
  obtain ⟨t, a1, b1⟩ := kk T.heap.size (V.setCell T.heap.size ce).heap ((hP.kept hk9).app (fun k x hx => by
      have hz : k < 1 := (List.getElem?_eq_some_iff.mp hx).1
      rw [show k = 0 by omega] at hx
      cases hx
      exact ⟨_, hc, ce, hh, hcid, hvm9, fun k hk => absurd hk (Nat.not_lt_zero k)⟩)) (hD.push hP rfl (hA _ hS.1)) ⟨Nat.le_trans hS.1 f1, fun q h1 h2 => (f2 q (Nat.lt_of_lt_of_le h1 hS.1) (fun z hz => nomatch hz)).trans (hS.2.1 q h1 h2), hS.2.2⟩ _ rfl X6
  refine ⟨t, st1 _ ?_, b1⟩
  show Steps p.tables e below (T1.setTop { method := m, pc := pc + 3, locals := ls, stack := .ref T.heap.size :: rest, locked := none }) _
  jvm_step X₁.here [X₁.here.top, hexec, d3', Value.category]
  exact X₁.ldcString hexec (own := own) (text := text) (index := is) (a := sa) hown' hstr'.1 hstr'.2
    (g := { method := m, pc := pc + 4, locals := ls, stack := .ref T.heap.size :: .ref T.heap.size :: rest, locked := none }) rfl d4' _ (st _ a1)
/-- 'new E()' that isn't thrown at once: the object goes on the stack -/
theorem vx_make0 {cc : ByteArray} {pc : Nat} (hexec : p.tables.exec = Jvm.exec) (hb : c.code = cc) (hl : l.stackTraces = false) {own cls : String} {names : List String} {ik ic ci : Nat} {A : Nat → Prop} {T0 : u_T}
    (hown : s.vm.findClass own = some m.cls) (hcls : Bundle.fit cls = true) (hnames : ∀ n ∈ names, Bundle.fit n = true)
    (hk : (Cond.classLink own ik cls).before args s = true) (hini : (Cond.initialized cls).before args s = true) (hat : ∀ w ∈ vx_at0 own ic cls names, w.before args s = true)
    (hgood : ∀ w ∈ Cond.classLink own ik cls :: Cond.initialized cls :: vx_at0 own ic cls names, vx_ot w = true)
    (hU : vx_Zq Bundle.tN "UNASSIGNED_STACK" Bundle.steD A s s.heap) (hN : vx_Zq Bundle.tN "SUPPRESSED_SENTINEL" Bundle.listD A s s.heap) (hS : va_S A s.heap H locs) (hsize : ls.size = c.maxLocals)
    (d0 : decode cc pc = .ok (.new ik, 3)) (d3 : decode cc (pc + 3) = .ok (.dup, 1)) (d4 : decode cc (pc + 4) = .ok (.invokespecial ic, 3))
    (hK : va_K D cl tys s) (hP : va_P D cl ws H) (hD : va_D A ws) (hA : ∀ q, s.heap.size ≤ q → A q) (hc : cl[ci]? = some (cls, T0, 0))
    (hRframes : names.length + 3 < R.frames) (hRlocals : (rest.map fun v => v.category).sum + (13 * (names.length + 1) + 42) ≤ R.locals) (hRcells : cells + 1 ≤ R.cells) (hRslots : slots + 6 ≤ R.slots)
    (kk : ∀ (q : Nat) (H1 : Heap), va_P D cl (ws ++ [(q, .inr (ci, []))]) H1 → va_D A (ws ++ [(q, .inr (ci, []))]) → va_S A s.heap H1 locs → W p l e R s m args below meth c H1 locs (cells + 1) (slots + 6) Q (F0 m (pc + 7) ls (.ref q :: rest))) :
    W p l e R s m args below meth c H locs cells slots Q (F0 m pc ls rest) := by
  intro T hT X
  subst hT
  have htr : e.platform.stackTraces = false := (show e.platform.stackTraces = l.stackTraces by rw [X.admits.platform]).trans hl
  have Y := vx_rebase X (R' := { frames := R.frames, locals := R.locals, cells := 1, slots := 6 }) (Nat.le_refl _) (Nat.le_refl _) hRcells hRslots
  obtain ⟨s', hA'⟩ : ∃ z, z = (T.setVm s.vm).setFrames (.invoking m args :: below) := ⟨_, rfl⟩
  rw [← hA'] at Y
  have hvm : s'.vm = s.vm := by rw [hA']; rfl
  have hhp : s'.heap = T.heap := by rw [hA']; rfl
  have hW0 : s.WarmedH s'.vm := by rw [hvm]; exact State.WarmedH.refl s
  have hat' : ∀ w ∈ vx_at0 own ic cls names, w.before args s' = true := fun w hw => vx_ot_at hW0 hvm.symm (hgood w (List.mem_cons_of_mem _ (List.mem_cons_of_mem _ hw))) (hat w hw)
  have hk' : (Cond.classLink own ik cls).before args s' = true := vx_ot_at hW0 hvm.symm (hgood _ List.mem_cons_self) hk
  have hini' : (Cond.initialized cls).before args s' = true := vx_ot_at hW0 hvm.symm (hgood _ (List.mem_cons_of_mem _ List.mem_cons_self)) hini
  have hU' : vx_Zq Bundle.tN "UNASSIGNED_STACK" Bundle.steD A s' s'.heap := by rw [hhp]; exact vx_Zq.moved hW0.alike (hU.kept hS.2.1)
  have hN' : vx_Zq Bundle.tN "SUPPRESSED_SENTINEL" Bundle.listD A s' s'.heap := by rw [hhp]; exact vx_Zq.moved hW0.alike (hN.kept hS.2.1)
  have h : ∀ w ∈ Bundle.ownAtoms0 own ic cls names, w.before args s' = true := vx_own hat' (vx_isRefq hU'.1) (vx_isRefq hN'.1) hU'.2.word hN'.2.word
  have hown' : s'.vm.findClass own = some m.cls := by rw [hvm]; exact hown
  have hins : (Cond.instantiable cls 6).before args s' = true := h _ (by simp [Bundle.ownAtoms0])
  obtain ⟨vm₁, cX, kX, hfX, hkX, -, -, X₁, st1⟩ := Y.newCold hexec (own := own) (C := cls) (index := ik) (n := 6) hown' hk' hins hini'
    (g := F0 m pc ls rest) rfl (by rw [hb]; exact d0) (Nat.le_refl _) (Nat.le_refl _)
  generalize hT1 : (T.setVm vm₁).pushCell { cls := cX, slots := kX.instanceTypes.map defaultValue, vm := .none } = T1 at X₁ st1
  have hcat : (Value.ref T.heap.size).category = 1 := rfl
  have hcellA : T1.heap[T.heap.size]? = some (freshCell cX kX) := by rw [← hT1]; exact State.heap_pushCell_size _ _
  have d3' : decode c.code (pc + 3) = .ok (.dup, 1) := by rw [hb]; exact d3
  obtain ⟨V, ce, L, Z, hL, hlt, hcl9, hvm9, st⟩ := vx_ctorMade0 X₁ hexec htr (own := own) (cls := cls) (names := names) (ic := ic) hown' hcls hnames h (fun x hx => nomatch hx) hfX hkX hcellA (by rw [hhp]; exact Nat.le_refl _)
    (g := { method := m, pc := pc + 4, locals := ls, stack := .ref T.heap.size :: .ref T.heap.size :: rest, locked := none }) rfl hsize (rest := rest) rfl
    (by rw [hb]; exact d4) hRframes (by simp only [List.map_cons, List.sum_cons, hcat]; omega)
  have Z0 := Stand.forget (locs := []) Z (fun y hy => by rw [hL y hy, hhp]; exact Nat.le_refl _)
  obtain ⟨f1, f2⟩ := vx_frame Z0.same
  rw [hhp] at f1 f2
  have hcid : ce.cls = D.1 ci := by
    rw [hcl9]
    have h1 := (hK.1 ci _ hc).2.1
    rw [hvm] at hfX
    exact Option.some.inj (hfX.symm.trans h1)
  have hh : (V.setCell T.heap.size ce).heap[T.heap.size]? = some ce := heapAt_setCell_self (s := V) ce hlt
  subst hA'
  have X5 := vx_back9 X Y Z0
  have X6 : Stand p l e R s m args below meth c (V.setCell T.heap.size ce) locs (cells + 1) (slots + 6) := { X5 with same := X5.same.mono (by omega) (by omega) }
  have hk9 : ∀ (k : Nat) (x : Nat × va_E), ws[k]? = some x → (V.setCell T.heap.size ce).heap[x.1]? = T.heap[x.1]? := fun k x hx => f2 x.1 ((hP k x hx).lt) (fun z hz => nomatch hz)
  obtain ⟨t, a1, b1⟩ := kk T.heap.size (V.setCell T.heap.size ce).heap ((hP.kept hk9).app (fun k x hx => by
      have hz : k < 1 := (List.getElem?_eq_some_iff.mp hx).1
      rw [show k = 0 by omega] at hx
      cases hx
      exact ⟨_, hc, ce, hh, hcid, hvm9, fun k hk => absurd hk (Nat.not_lt_zero k)⟩)) (hD.push hP rfl (hA _ hS.1)) ⟨Nat.le_trans hS.1 f1, fun q h1 h2 => (f2 q (Nat.lt_of_lt_of_le h1 hS.1) (fun z hz => nomatch hz)).trans (hS.2.1 q h1 h2), hS.2.2⟩ _ rfl X6
  refine ⟨t, st1 _ ?_, b1⟩
  show Steps p.tables e below (T1.setTop { method := m, pc := pc + 3, locals := ls, stack := .ref T.heap.size :: rest, locked := none }) _
  jvm_step X₁.here [X₁.here.top, hexec, d3', Value.category]
  exact st _ a1
/-- 'throw x' of an object that was made before -/
theorem vx_athrow {cc : ByteArray} {pc : Nat} (hexec : p.tables.exec = Jvm.exec) (hb : c.code = cc) {q : Addr} (hdg : decode cc pc = .ok (.athrow, 1)) (k : vx_W p l e R s m args below meth c H locs cells slots Q (F0 m pc ls rest) q) : W p l e R s m args below meth c H locs cells slots Q (F0 m pc ls (.ref q :: rest)) := by
  intro T hT X
  obtain ⟨t, st, hq⟩ := k T hT X
  refine ⟨t, ?_, hq⟩
  have hdg' : decode c.code pc = .ok (.athrow, 1) := by rw [hb]; exact hdg
  jvm_step X.here [X.here.top, hexec, hdg', athrow.wp_sem]
  exact st
end VXK2
/-! ===== END ===== -/
/-! ===== BEGIN a constructor that throws (launches without stack traces) ===== -/
section VXIA
variable {p : Program} {l : Launch} {e : Env} {R : Room} {s : State} {m : MethodId} {args : Array Value} {below : List Frame} {meth : Method} {c : Code} {T : State} {locs : List Loc} {cells slots : Nat}
theorem vx_callI (X : Stand p l e R s m args below meth c T locs cells slots) (hexec : p.tables.exec = Jvm.exec) {own : String} {index : Nat} {y : MethodName} {bytes : ByteArray} {maxL : Nat}
    (hown : s.vm.findClass own = some m.cls) (hy1 : y.name = "<init>") (hlink : (Cond.methodLink own index y).before args s = true) (hinst : (Cond.instanceMethod y).before args s = true)
    (hcode : (Cond.code y bytes maxL none).before args s = true) (hy : y.cls ≠ "java/lang/invoke/MethodHandle" ∧ y.cls ≠ "java/lang/invoke/VarHandle")
    {W9 : Nat} {Pre : Pt → Array Value → Prop} {Post : Pt → Array Value → Option Value → Pt → Prop} {PostX : Pt → Array Value → Addr → Pt → Prop} (hK : vx_Back l R p e below s args y 3 W9 Pre Post PostX)
    {g : JFrame} (hg : g.method = m) (hsize : g.locals.size = c.maxLocals) {a : Addr} {argsL rest : List Value} (hlen : ∀ sig, parseMethodDescriptor y.desc = some sig → argsL.length = sig.parameters.length)
    (hstack : g.stack = argsL.reverse ++ .ref a :: rest) (hW : 2 * g.monitorRoom + (rest.map fun v => v.category).sum ≤ W9) (hdg : decode c.code g.pc = .ok (.invokespecial index, 3))
    (hpre : ∀ vm₁, s.WarmedH vm₁ → Pre ⟨T.setVm vm₁, locs, cells, slots⟩ (Value.ref a :: argsL).toArray) :
    (∃ (v : Option Value) (vm₁ : Vm) (B : Pt), s.WarmedH vm₁ ∧ Stand p l e R s m args below meth c B.U B.locs B.cells B.slots ∧ Post ⟨T.setVm vm₁, locs, cells, slots⟩ (Value.ref a :: argsL).toArray v B ∧
      ∀ target, Steps p.tables e below (B.U.setTop { g with pc := g.pc + 3, stack := v.toList ++ rest }) target → Steps p.tables e below (T.setTop g) target) ∨
    (∃ (q : Addr) (vm₁ : Vm) (B : Pt), s.WarmedH vm₁ ∧ Stand p l e R s m args below meth c B.U B.locs B.cells B.slots ∧ PostX ⟨T.setVm vm₁, locs, cells, slots⟩ (Value.ref a :: argsL).toArray q B ∧
      Steps p.tables e below (T.setTop g) ((B.U.setTop { g with stack := rest }).pushFrame (.throwing q))) := by
  subst hg
  have hpl : e.platform.magicAccessors = ({} : Platform).magicAccessors := by rw [X.admits.platform]
  obtain ⟨mk, methM, cM, kP, vm₁, hnamed, hmethM, hcodeM, -, hlocalsM, -, hkP, -, hW₁, hstep₁⟩ := Steps.initColdArgs (e := e) X.here hexec X.warmed hpl hown hy1 hy hlink hinst hcode (f := g) rfl hlen hstack hdg
  have X₁ := X.noted hW₁
  rcases hK g.method meth c ⟨T.setVm vm₁, locs, cells, slots⟩ { g with stack := rest } (.invokespecial index) mk (Value.ref a :: argsL).toArray X₁ rfl hsize hdg hW (X₁.named hnamed) (hpre vm₁ X₁.warmed) with ⟨v, B, X', hpost, hsteps⟩ | ⟨q, B, X', hpost, hsteps⟩
  · exact Or.inl ⟨v, vm₁, B, X₁.warmed, X', hpost, fun target h => hstep₁ _ fun acts => by rw [doInvoke_state]; exact hsteps.trans h⟩
  · exact Or.inr ⟨q, vm₁, B, X₁.warmed, X', hpost, hstep₁ _ fun acts => by rw [doInvoke_state]; exact hsteps⟩
end VXIA
section VXIB
variable {p : Program} {l : Launch} {e : Env} {R : Room} {s : State} {m : MethodId} {args : Array Value} {below : List Frame} {meth : Method} {c : Code} {H : Heap} {locs : List Loc} {cells slots : Nat}
variable {y : MethodName} {bytes cc : ByteArray} {maxL nL mc ms n index : Nat} {ret : Option FieldType} {ws : List Cond} {rm : Room} {Pc : Array Value → State → Prop} {Qc : Array Value → State → Outcome → State → Prop} {XC : String → State → State → Prop} {free : Addr → Prop} {Ts : List Cond} {own C : String} {b : Addr} {As rest : List Value} {g : JFrame}
theorem vx_runI (S : CallFix p m c cc nL s args Ts own) (hM : vx_Met l y ws rm Pc Qc XC mc ms free) (cw : CallB R s args own index y bytes maxL none ws rm mc ms n ∧ y.name = "<init>" ∧ (Cond.instanceMethod y).before args s = true) (hp : PreS s H Pc (.ref b :: As))
    (hg : g.method = m) (hn : As.length = n) (hsize : g.locals.size = nL) (hstack : g.stack = As.reverse ++ .ref b :: rest) (hW : 2 * g.monitorRoom + (rest.map fun v => v.category).sum ≤ 8) (hdg : decode cc g.pc = .ok (.invokespecial index, 3)) (hf : cells + mc ≤ R.cells ∧ slots + ms ≤ R.slots) :
    vx_Run p l e R s m args below meth c H locs cells slots mc ms g rest (Qc (Value.ref b :: As).toArray) XC free := by
  have hK : vx_Back l R p e below s args y 3 8 (PreOf R mc ms Pc) (PostOf Qc mc ms free) (vx_Post XC mc ms free) := vx_callBack cw.1 hM hp.1
  obtain ⟨⟨-, -, -, -, -, -, hcode, -, hy, hlen, hl⟩, hy1, hin⟩ := cw
  obtain ⟨hx, hb, hml, ho, -⟩ := S
  have hPc := hp.2
  intro T hT X
  rcases vx_callI X hx (bytes := bytes) (maxL := maxL) ho hy1 hl hin hcode hy hK hg (hsize.trans hml.symm) (a := b) (argsL := As) (rest := rest) (fun sig h => hn.trans (hlen sig h)) hstack hW (by rw [hb]; exact hdg)
    (fun vm₁ hW₁ => ⟨hf.1, hf.2, hPc (T.setVm vm₁) hT hW₁⟩) with ⟨v, vm₁, ⟨U', l2, c2, s2⟩, hW₁, X', ⟨g', mk, t, L, e1, e2, hq, h1, hL, h2, h3⟩, st⟩ | ⟨q, vm₁, ⟨U', l2, c2, s2⟩, hW₁, X', ⟨g', mk, t, L, E, ce, e1, e2, hq, hce, hcv, hcl, h1, hL, h2, h3⟩, st⟩
  · dsimp only [Pt.U, Pt.locs, Pt.cells, Pt.slots] at X' e1 e2 h1 h2 h3 st
    subst h1; subst h2; subst h3
    exact Or.inl ⟨v, (T.setVm vm₁).calling g' mk (Value.ref b :: As).toArray, t, U', L, hT, X', hL, e1, e2, hq, st⟩
  · dsimp only [Pt.U, Pt.locs, Pt.cells, Pt.slots] at X' e1 e2 h1 h2 h3 st hcl
    subst h1; subst h2; subst h3
    exact Or.inr ⟨q, (T.setVm vm₁).calling g' mk (Value.ref b :: As).toArray, t, U', L, E, ce, hT, X', hL, e1, e2, hq, hce, hcv, vx_cls hW₁ hcl, st⟩
end VXIB
/-! ===== END ===== -/
/-! ===== BEGIN a private constructor of a nest mate that throws ===== -/
section VXIC
variable {p : Program} {l : Launch} {e : Env} {R : Room} {s : State} {m : MethodId} {args : Array Value} {below : List Frame} {meth : Method} {c : Code} {T : State} {locs : List Loc} {cells slots : Nat}
theorem vx_callIN (X : Stand p l e R s m args below meth c T locs cells slots) (hexec : p.tables.exec = Jvm.exec) {own : String} {index : Nat} {host : String} {y : MethodName} {bytes : ByteArray} {maxL : Nat}
    (hown : s.vm.findClass own = some m.cls) (hy1 : y.name = "<init>") (hlink : (Cond.methodLinkNest own index y host).before args s = true) (hinst : (Cond.instanceMethod y).before args s = true)
    (hcode : (Cond.code y bytes maxL none).before args s = true) (hy : y.cls ≠ "java/lang/invoke/MethodHandle" ∧ y.cls ≠ "java/lang/invoke/VarHandle")
    {W9 : Nat} {Pre : Pt → Array Value → Prop} {Post : Pt → Array Value → Option Value → Pt → Prop} {PostX : Pt → Array Value → Addr → Pt → Prop} (hK : vx_Back l R p e below s args y 3 W9 Pre Post PostX)
    {g : JFrame} (hg : g.method = m) (hsize : g.locals.size = c.maxLocals) {a : Addr} {argsL rest : List Value} (hlen : ∀ sig, parseMethodDescriptor y.desc = some sig → argsL.length = sig.parameters.length)
    (hstack : g.stack = argsL.reverse ++ .ref a :: rest) (hW : 2 * g.monitorRoom + (rest.map fun v => v.category).sum ≤ W9) (hdg : decode c.code g.pc = .ok (.invokespecial index, 3))
    (hpre : ∀ vm₁, s.WarmedH vm₁ → Pre ⟨T.setVm vm₁, locs, cells, slots⟩ (Value.ref a :: argsL).toArray) :
    (∃ (v : Option Value) (vm₁ : Vm) (B : Pt), s.WarmedH vm₁ ∧ Stand p l e R s m args below meth c B.U B.locs B.cells B.slots ∧ Post ⟨T.setVm vm₁, locs, cells, slots⟩ (Value.ref a :: argsL).toArray v B ∧
      ∀ target, Steps p.tables e below (B.U.setTop { g with pc := g.pc + 3, stack := v.toList ++ rest }) target → Steps p.tables e below (T.setTop g) target) ∨
    (∃ (q : Addr) (vm₁ : Vm) (B : Pt), s.WarmedH vm₁ ∧ Stand p l e R s m args below meth c B.U B.locs B.cells B.slots ∧ PostX ⟨T.setVm vm₁, locs, cells, slots⟩ (Value.ref a :: argsL).toArray q B ∧
      Steps p.tables e below (T.setTop g) ((B.U.setTop { g with stack := rest }).pushFrame (.throwing q))) := by
  subst hg
  have hpl : e.platform.magicAccessors = ({} : Platform).magicAccessors := by rw [X.admits.platform]
  obtain ⟨mk, methM, cM, kP, vm₁, hnamed, hmethM, hcodeM, -, hlocalsM, -, hkP, -, hW₁, hstep₁⟩ := Steps.initColdArgsNest (e := e) X.here hexec X.warmed hpl hown hy1 hy hlink hinst hcode (f := g) rfl hlen hstack hdg
  have X₁ := X.noted hW₁
  rcases hK g.method meth c ⟨T.setVm vm₁, locs, cells, slots⟩ { g with stack := rest } (.invokespecial index) mk (Value.ref a :: argsL).toArray X₁ rfl hsize hdg hW (X₁.named hnamed) (hpre vm₁ X₁.warmed) with ⟨v, B, X', hpost, hsteps⟩ | ⟨q, B, X', hpost, hsteps⟩
  · exact Or.inl ⟨v, vm₁, B, X₁.warmed, X', hpost, fun target h => hstep₁ _ fun acts => by rw [doInvoke_state]; exact hsteps.trans h⟩
  · exact Or.inr ⟨q, vm₁, B, X₁.warmed, X', hpost, hstep₁ _ fun acts => by rw [doInvoke_state]; exact hsteps⟩
end VXIC
section VXID
variable {p : Program} {l : Launch} {e : Env} {R : Room} {s : State} {m : MethodId} {args : Array Value} {below : List Frame} {meth : Method} {c : Code} {H : Heap} {locs : List Loc} {cells slots : Nat}
theorem vx_runIN {y : MethodName} {bytes cc : ByteArray} {maxL nL mc ms n index : Nat} {ws : List Cond} {rm : Room} {Pc : Array Value → State → Prop} {Qc : Array Value → State → Outcome → State → Prop} {XC : String → State → State → Prop} {free : Addr → Prop} {Ts : List Cond} {own host : String} {b : Addr} {As rest : List Value} {g : JFrame}
    (S : CallFix p m c cc nL s args Ts own) (hM : vx_Met l y ws rm Pc Qc XC mc ms free) (cw : va_CN R s args own index y host bytes maxL none ws rm mc ms n ∧ y.name = "<init>" ∧ (Cond.instanceMethod y).before args s = true) (hp : PreS s H Pc (.ref b :: As))
    (hg : g.method = m) (hn : As.length = n) (hsize : g.locals.size = nL) (hstack : g.stack = As.reverse ++ .ref b :: rest) (hW : 2 * g.monitorRoom + (rest.map fun v => v.category).sum ≤ 8) (hdg : decode cc g.pc = .ok (.invokespecial index, 3)) (hf : cells + mc ≤ R.cells ∧ slots + ms ≤ R.slots) :
    vx_Run p l e R s m args below meth c H locs cells slots mc ms g rest (Qc (Value.ref b :: As).toArray) XC free := by
  obtain ⟨⟨⟨hrc, hrs, hfr, hlo, hws, hcw⟩, hcode, hini, hy, hlen, hl⟩, hx1, hx2⟩ := cw
  have hK : vx_Back l R p e below s args y 3 8 (PreOf R mc ms Pc) (PostOf Qc mc ms free) (vx_Post XC mc ms free) := vx_back (bytes := bytes) (maxL := maxL) (ret := none) hM hp.1 hrc hrs hfr hlo hws hcw (fun a' U hW => word_at hW (Or.inl (by first | rfl | simp [Cond.onTables, Cond.keeps, Cond.steady])) hini)
  obtain ⟨hx, hb, hml, ho, -⟩ := S
  have hPc := hp.2
  intro T hT X
  rcases vx_callIN X hx (bytes := bytes) (maxL := maxL) ho hx1 hl hx2 hcode hy hK hg (hsize.trans hml.symm) (a := b) (argsL := As) (rest := rest) (fun sig h => hn.trans (hlen sig h)) hstack hW (by rw [hb]; exact hdg)
    (fun vm₁ hW₁ => ⟨hf.1, hf.2, hPc (T.setVm vm₁) hT hW₁⟩) with ⟨v, vm₁, ⟨U', l2, c2, s2⟩, hW₁, X', ⟨g', mk, t, L, e1, e2, hq, h1, hL, h2, h3⟩, st⟩ | ⟨q, vm₁, ⟨U', l2, c2, s2⟩, hW₁, X', ⟨g', mk, t, L, E, ce, e1, e2, hq, hce, hcv, hcl, h1, hL, h2, h3⟩, st⟩
  · dsimp only [Pt.U, Pt.locs, Pt.cells, Pt.slots] at X' e1 e2 h1 h2 h3 st
    subst h1; subst h2; subst h3
    exact Or.inl ⟨v, (T.setVm vm₁).calling g' mk (Value.ref b :: As).toArray, t, U', L, hT, X', hL, e1, e2, hq, st⟩
  · dsimp only [Pt.U, Pt.locs, Pt.cells, Pt.slots] at X' e1 e2 h1 h2 h3 st hcl
    subst h1; subst h2; subst h3
    exact Or.inr ⟨q, (T.setVm vm₁).calling g' mk (Value.ref b :: As).toArray, t, U', L, E, ce, hT, X', hL, e1, e2, hq, hce, hcv, vx_cls hW₁ hcl, st⟩
end VXID
/-! ===== END ===== -/
/-! ===== BEGIN a method of a class above, found by the receiver, that may throw (follows va_callVU, va_runU of this kit) ===== -/
section
variable {p : Program} {l : Launch} {e : Env} {R : Room} {s : State} {m : MethodId} {args : Array Value} {below : List Frame} {meth : Method} {c : Code} {H : Heap} {locs : List Loc} {cells slots : Nat}
theorem vx_callVU {T : State} {locs : List Loc} {cells slots : Nat} (X : Stand p l e R s m args below meth c T locs cells slots) (hexec : p.tables.exec = Jvm.exec) {own C owner : String} {index : Nat} {x y : MethodName} {bytes : ByteArray} {maxL : Nat} {ret : Option FieldType}
    (hown : s.vm.findClass own = some m.cls) (hlink : (Cond.methodLink own index x).before args s = true) (hsame : (Cond.sameMethod x.cls owner x.name x.desc).before args s = true)
    (hd0 : va_Decl s ⟨owner, x.name, x.desc⟩) (howner : owner ≠ "java/lang/invoke/MethodHandle" ∧ owner ≠ "java/lang/invoke/VarHandle")
    (hsel : (Cond.selects C x y).before args s = true) (hinst : (Cond.instanceMethod y).before args s = true) (hcode : (Cond.code y bytes maxL ret).before args s = true)
    {W : Nat} {Pre : Pt → Array Value → Prop} {Post : Pt → Array Value → Option Value → Pt → Prop} {PostX : Pt → Array Value → Addr → Pt → Prop} (hK : vx_Back l R p e below s args y 3 W Pre Post PostX)
    {b : Addr} {cellB : Cell} (hcell : T.heap[b]? = some cellB) (hobj : cellB.vm.isStatics = false) (hcls : s.vm.findClass C = some cellB.cls)
    {g : JFrame} (hg : g.method = m) (hsize : g.locals.size = c.maxLocals) {argsL rest : List Value} (hlen : ∀ sig, parseMethodDescriptor x.desc = some sig → argsL.length = sig.parameters.length)
    (hstack : g.stack = argsL.reverse ++ .ref b :: rest) (hW : 2 * g.monitorRoom + (rest.map fun v => v.category).sum ≤ W) (hdg : decode c.code g.pc = .ok (.invokevirtual index, 3))
    (hpre : ∀ vm₁, s.WarmedH vm₁ → Pre ⟨T.setVm vm₁, locs, cells, slots⟩ (Value.ref b :: argsL).toArray) :
    (∃ (v : Option Value) (vm₁ : Vm) (B : Pt), s.WarmedH vm₁ ∧ Stand p l e R s m args below meth c B.U B.locs B.cells B.slots ∧ Post ⟨T.setVm vm₁, locs, cells, slots⟩ (Value.ref b :: argsL).toArray v B ∧
      ∀ target, Steps p.tables e below (B.U.setTop { g with pc := g.pc + 3, stack := v.toList ++ rest }) target → Steps p.tables e below (T.setTop g) target) ∨
    (∃ (q : Addr) (vm₁ : Vm) (B : Pt), s.WarmedH vm₁ ∧ Stand p l e R s m args below meth c B.U B.locs B.cells B.slots ∧ PostX ⟨T.setVm vm₁, locs, cells, slots⟩ (Value.ref b :: argsL).toArray q B ∧
      Steps p.tables e below (T.setTop g) ((B.U.setTop { g with stack := rest }).pushFrame (.throwing q))) := by
  obtain ⟨r0, r, hn, hrm, hstR, hsigR⟩ := hd0
  obtain ⟨cn, ck, r1, hcn, hck, hni, hf, hn1⟩ := Cond.sameMethod_found hsame
  cases hn.symm.trans hn1
  obtain ⟨mk, methM, hnamed, hmethM, -, habM⟩ := Cond.instanceMethod_spec hinst
  obtain ⟨c2, r2, m2, q1, q2, q3, q4, kP, hkP, hkPi⟩ := Cond.selects_spec hsel
  cases hcls.symm.trans q1
  cases hf.symm.trans q2
  cases hnamed.symm.trans q3
  have hselP : selectMethod e.platform s.vm cellB.cls r0 = .method mk := by rw [Launch.admits_selectMethod X.admits]; exact q4
  obtain ⟨vm₁, X₁, hstep₁⟩ := X.invokevirtualUp hexec hown hlink hsame howner hn hrm hstR (a := b) (cell := cellB) hcell
    (fun z h => by rw [h] at hobj; cases hobj) hselP hmethM habM hkP hkPi (g := g) hg (argsL := argsL) (rest := rest) (hlen _ hsigR) hstack hdg
  rcases hK m meth c ⟨T.setVm vm₁, locs, cells, slots⟩ { g with stack := rest } (.invokevirtual index) mk (Value.ref b :: argsL).toArray X₁ hg hsize hdg hW (X₁.named hnamed) (hpre vm₁ X₁.warmed) with ⟨v, B, X', hpost, hsteps⟩ | ⟨q, B, X', hpost, hsteps⟩
  · exact Or.inl ⟨v, vm₁, B, X₁.warmed, X', hpost, fun target h => hstep₁ _ fun acts => by rw [doInvoke_state]; exact hsteps.trans h⟩
  · exact Or.inr ⟨q, vm₁, B, X₁.warmed, X', hpost, hstep₁ _ fun acts => by rw [doInvoke_state]; exact hsteps⟩
theorem vx_runU {x y : MethodName} {bytes cc : ByteArray} {maxL nL mc ms n index : Nat} {ret : Option FieldType} {ws : List Cond} {rm : Room} {Pc : Array Value → State → Prop} {Qc : Array Value → State → Outcome → State → Prop} {XC : String → State → State → Prop} {free : Addr → Prop} {Ts : List Cond} {own C owner : String} {b : Addr} {As rest : List Value} {g : JFrame}
    (S : CallFix p m c cc nL s args Ts own) (hM : vx_Met l y ws rm Pc Qc XC mc ms free) (cw : va_CU R s args own C owner index x y bytes maxL ret ws rm mc ms n) (hp : PreV s H C b Pc As)
    (hg : g.method = m) (hn : As.length = n) (hsize : g.locals.size = nL) (hstack : g.stack = As.reverse ++ .ref b :: rest) (hW : 2 * g.monitorRoom + (rest.map fun v => v.category).sum ≤ 8) (hdg : decode cc g.pc = .ok (.invokevirtual index, 3)) (hf : cells + mc ≤ R.cells ∧ slots + ms ≤ R.slots) :
    vx_Run p l e R s m args below meth c H locs cells slots mc ms g rest (Qc (Value.ref b :: As).toArray) XC free := by
  obtain ⟨hrc, hrs, hfr, hlo, hws, hcw⟩ := cw.back
  have hini := cw.init
  have hK : vx_Back l R p e below s args y 3 8 (PreOf R mc ms Pc) (PostOf Qc mc ms free) (vx_Post XC mc ms free) := vx_back (bytes := bytes) (maxL := maxL) (ret := ret) hM hp.1 hrc hrs hfr hlo hws hcw (fun a' U hW => word_at hW (Or.inl (by first | rfl | simp [Cond.onTables, Cond.keeps, Cond.steady])) hini)
  obtain ⟨hx, hb, hml, ho, -⟩ := S
  obtain ⟨-, ⟨cellB, hcB, hoB, hclB⟩, hPc⟩ := hp
  intro T hT X
  rcases vx_callVU X hx (C := C) (owner := owner) (bytes := bytes) (maxL := maxL) (ret := ret) ho cw.link cw.same cw.decl cw.notMH cw.sel cw.inst cw.code hK (by rw [hT]; exact hcB) hoB hclB hg (hsize.trans hml.symm) (argsL := As) (rest := rest) (fun sig h => hn.trans (cw.len sig h)) hstack hW (by rw [hb]; exact hdg)
    (fun vm₁ hW₁ => ⟨hf.1, hf.2, hPc (T.setVm vm₁) hT hW₁⟩) with ⟨v, vm₁, ⟨U', l2, c2, s2⟩, hW₁, X', ⟨g', mk, t, L, e1, e2, hq, h1, hL, h2, h3⟩, st⟩ | ⟨q, vm₁, ⟨U', l2, c2, s2⟩, hW₁, X', ⟨g', mk, t, L, E, ce, e1, e2, hq, hce, hcv, hcl, h1, hL, h2, h3⟩, st⟩
  · dsimp only [Pt.U, Pt.locs, Pt.cells, Pt.slots] at X' e1 e2 h1 h2 h3 st
    subst h1; subst h2; subst h3
    exact Or.inl ⟨v, (T.setVm vm₁).calling g' mk (Value.ref b :: As).toArray, t, U', L, hT, X', hL, e1, e2, hq, st⟩
  · dsimp only [Pt.U, Pt.locs, Pt.cells, Pt.slots] at X' e1 e2 h1 h2 h3 st hcl
    subst h1; subst h2; subst h3
    exact Or.inr ⟨q, (T.setVm vm₁).calling g' mk (Value.ref b :: As).toArray, t, U', L, E, ce, hT, X', hL, e1, e2, hq, hce, hcv, vx_cls hW₁ hcl, st⟩
end
/-! ===== END ===== -/
/-! ===== BEGIN super.m(..) that may throw (follows va_callSU, va_runSU) ===== -/
section
variable {p : Program} {l : Launch} {e : Env} {R : Room} {s : State} {m : MethodId} {args : Array Value} {below : List Frame} {meth : Method} {c : Code} {H : Heap} {locs : List Loc} {cells slots : Nat}
theorem vx_callSU {T : State} {locs : List Loc} {cells slots : Nat} (X : Stand p l e R s m args below meth c T locs cells slots) (hexec : p.tables.exec = Jvm.exec) {own : String} {index : Nat} {y : MethodName} {bytes : ByteArray} {maxL : Nat} {ret : Option FieldType}
    (hown : s.vm.findClass own = some m.cls) (hlink : (Cond.methodLink own index y).before args s = true) (hsame : (Cond.sameMethod y.cls y.cls y.name y.desc).before args s = true) (hsup : (Cond.superclass own y.cls).before args s = true)
    (hinst : (Cond.instanceMethod y).before args s = true) (hcode : (Cond.code y bytes maxL ret).before args s = true) (hno : y.name ≠ "<init>")
    {W : Nat} {Pre : Pt → Array Value → Prop} {Post : Pt → Array Value → Option Value → Pt → Prop} {PostX : Pt → Array Value → Addr → Pt → Prop} (hK : vx_Back l R p e below s args y 3 W Pre Post PostX)
    {b : Addr} {cellB : Cell} {kB : Class} (hcell : T.heap[b]? = some cellB) (hobj : cellB.vm.isStatics = false) (hkB : s.vm.classes[cellB.cls]? = some kB)
    {g : JFrame} (hg : g.method = m) (hsize : g.locals.size = c.maxLocals) {argsL rest : List Value} (hlen : ∀ sig, parseMethodDescriptor y.desc = some sig → argsL.length = sig.parameters.length)
    (hstack : g.stack = argsL.reverse ++ .ref b :: rest) (hW : 2 * g.monitorRoom + (rest.map fun v => v.category).sum ≤ W) (hdg : decode c.code g.pc = .ok (.invokespecial index, 3))
    (hpre : ∀ vm₁, s.WarmedH vm₁ → Pre ⟨T.setVm vm₁, locs, cells, slots⟩ (Value.ref b :: argsL).toArray) :
    (∃ (v : Option Value) (vm₁ : Vm) (B : Pt), s.WarmedH vm₁ ∧ Stand p l e R s m args below meth c B.U B.locs B.cells B.slots ∧ Post ⟨T.setVm vm₁, locs, cells, slots⟩ (Value.ref b :: argsL).toArray v B ∧
      ∀ target, Steps p.tables e below (B.U.setTop { g with pc := g.pc + 3, stack := v.toList ++ rest }) target → Steps p.tables e below (T.setTop g) target) ∨
    (∃ (q : Addr) (vm₁ : Vm) (B : Pt), s.WarmedH vm₁ ∧ Stand p l e R s m args below meth c B.U B.locs B.cells B.slots ∧ PostX ⟨T.setVm vm₁, locs, cells, slots⟩ (Value.ref b :: argsL).toArray q B ∧
      Steps p.tables e below (T.setTop g) ((B.U.setTop { g with stack := rest }).pushFrame (.throwing q))) := by
  obtain ⟨mk, methM, hnamed, hmethM, hstM, habM⟩ := Cond.instanceMethod_spec hinst
  obtain ⟨methM', cM, hmethM', -, -, -, -, -, -, hsigM⟩ := Cond.code_spec hnamed hcode
  cases hmethM.symm.trans hmethM'
  obtain ⟨ps, dk, kp, hps, hdk, hkp, hsuper, -, -, hnid⟩ := Cond.superclass_spec hown hsup
  have hn : s.methodNamed? ⟨y.cls, y.name, y.desc⟩ = some mk := hnamed
  have hpm : ps = mk.cls := Option.some.inj (hps.symm.trans (findClass_of_methodNamed hnamed))
  have hsub : s.vm.isSubclass ps mk.cls = true := by rw [hpm]; simp [Vm.isSubclass, Vm.isSubclassAux]
  obtain ⟨vm₁, X₁, hstep₁⟩ := X.invokespecialUp hexec hown hlink hsame hn hmethM hstM habM hno hdk hnid hps hsuper hsub (a := b) (cell := cellB) hcell
    (fun z h => by rw [h] at hobj; cases hobj) hkB (g := g) hg (argsL := argsL) (rest := rest) (hlen _ hsigM) hstack hdg
  rcases hK m meth c ⟨T.setVm vm₁, locs, cells, slots⟩ { g with stack := rest } (.invokespecial index) mk (Value.ref b :: argsL).toArray X₁ hg hsize hdg hW (X₁.named hnamed) (hpre vm₁ X₁.warmed) with ⟨v, B, X', hpost, hsteps⟩ | ⟨q, B, X', hpost, hsteps⟩
  · exact Or.inl ⟨v, vm₁, B, X₁.warmed, X', hpost, fun target h => hstep₁ _ (by rw [doInvoke_state]; exact hsteps.trans h)⟩
  · exact Or.inr ⟨q, vm₁, B, X₁.warmed, X', hpost, hstep₁ _ (by rw [doInvoke_state]; exact hsteps)⟩
theorem vx_runSU {y : MethodName} {bytes cc : ByteArray} {maxL nL mc ms n index : Nat} {ret : Option FieldType} {ws : List Cond} {rm : Room} {Pc : Array Value → State → Prop} {Qc : Array Value → State → Outcome → State → Prop} {XC : String → State → State → Prop} {free : Addr → Prop} {Ts : List Cond} {own C : String} {cC : ClassId} {b : Addr} {As rest : List Value} {g : JFrame}
    (hat : ClassAt s C cC) (S : CallFix p m c cc nL s args Ts own) (hM : vx_Met l y ws rm Pc Qc XC mc ms free) (cw : va_CS R s args own index y bytes maxL ret ws rm mc ms n) (hp : PreV s H C b Pc As)
    (hg : g.method = m) (hn : As.length = n) (hsize : g.locals.size = nL) (hstack : g.stack = As.reverse ++ .ref b :: rest) (hW : 2 * g.monitorRoom + (rest.map fun v => v.category).sum ≤ 8) (hdg : decode cc g.pc = .ok (.invokespecial index, 3)) (hf : cells + mc ≤ R.cells ∧ slots + ms ≤ R.slots) :
    vx_Run p l e R s m args below meth c H locs cells slots mc ms g rest (Qc (Value.ref b :: As).toArray) XC free := by
  obtain ⟨⟨hrc, hrs, hfr, hlo, hws, hcw⟩, hl1, hl2, hl3, hl4, hini, hcode, hno, hlen⟩ := cw
  have hK : vx_Back l R p e below s args y 3 8 (PreOf R mc ms Pc) (PostOf Qc mc ms free) (vx_Post XC mc ms free) := vx_back (bytes := bytes) (maxL := maxL) (ret := ret) hM hp.1 hrc hrs hfr hlo hws hcw (fun a' U hW => word_at hW (Or.inl (by first | rfl | simp [Cond.onTables, Cond.keeps, Cond.steady])) hini)
  obtain ⟨hx, hb, hml, ho, -⟩ := S
  obtain ⟨-, ⟨cellB, hcB, hoB, hclB⟩, hPc⟩ := hp
  obtain ⟨hfc, kB, hkB, -⟩ := hat
  cases hfc.symm.trans hclB
  intro T hT X
  rcases vx_callSU X hx (bytes := bytes) (maxL := maxL) (ret := ret) ho hl1 hl2 hl3 hl4 hcode hno hK (by rw [hT]; exact hcB) hoB hkB hg (hsize.trans hml.symm) (argsL := As) (rest := rest) (fun sig h => hn.trans (hlen sig h)) hstack hW (by rw [hb]; exact hdg)
    (fun vm₁ hW₁ => ⟨hf.1, hf.2, hPc (T.setVm vm₁) hT hW₁⟩) with ⟨v, vm₁, ⟨U', l2, c2, s2⟩, hW₁, X', ⟨g', mk, t, L, e1, e2, hq, h1, hL, h2, h3⟩, st⟩ | ⟨q, vm₁, ⟨U', l2, c2, s2⟩, hW₁, X', ⟨g', mk, t, L, E, ce, e1, e2, hq, hce, hcv, hcl, h1, hL, h2, h3⟩, st⟩
  · dsimp only [Pt.U, Pt.locs, Pt.cells, Pt.slots] at X' e1 e2 h1 h2 h3 st
    subst h1; subst h2; subst h3
    exact Or.inl ⟨v, (T.setVm vm₁).calling g' mk (Value.ref b :: As).toArray, t, U', L, hT, X', hL, e1, e2, hq, st⟩
  · dsimp only [Pt.U, Pt.locs, Pt.cells, Pt.slots] at X' e1 e2 h1 h2 h3 st hcl
    subst h1; subst h2; subst h3
    exact Or.inr ⟨q, (T.setVm vm₁).calling g' mk (Value.ref b :: As).toArray, t, U', L, E, ce, hT, X', hL, e1, e2, hq, hce, hcv, vx_cls hW₁ hcl, st⟩
end
/-! ===== END ===== -/
/-! ===== BEGIN a private method of a nest mate that may throw (follows va_callVN, va_callSN, va_runVN, va_runSN) ===== -/
section
variable {p : Program} {l : Launch} {e : Env} {R : Room} {s : State} {m : MethodId} {args : Array Value} {below : List Frame} {meth : Method} {c : Code} {H : Heap} {locs : List Loc} {cells slots : Nat}
variable {T : State}
theorem vx_callVN (X : Stand p l e R s m args below meth c T locs cells slots) (hexec : p.tables.exec = Jvm.exec) {own C : String} {index : Nat} {host : String} {y : MethodName} {bytes : ByteArray} {maxL : Nat} {ret : Option FieldType}
    (hown : s.vm.findClass own = some m.cls) (hlink : (Cond.methodLinkNest own index y host).before args s = true) (hinst : (Cond.instanceMethod y).before args s = true) (hsel : (Cond.selects C y y).before args s = true)
    (hcode : (Cond.code y bytes maxL ret).before args s = true) (hy : y.cls ≠ "java/lang/invoke/MethodHandle" ∧ y.cls ≠ "java/lang/invoke/VarHandle")
    {W : Nat} {Pre : Pt → Array Value → Prop} {Post : Pt → Array Value → Option Value → Pt → Prop} {PostX : Pt → Array Value → Addr → Pt → Prop} (hK : vx_Back l R p e below s args y 3 W Pre Post PostX)
    {b : Addr} {cellB : Cell} (hcell : T.heap[b]? = some cellB) (hobj : cellB.vm.isStatics = false) (hcls : s.vm.findClass C = some cellB.cls)
    {g : JFrame} (hg : g.method = m) (hsize : g.locals.size = c.maxLocals) {argsL rest : List Value} (hlen : ∀ sig, parseMethodDescriptor y.desc = some sig → argsL.length = sig.parameters.length)
    (hstack : g.stack = argsL.reverse ++ .ref b :: rest) (hW : 2 * g.monitorRoom + (rest.map fun v => v.category).sum ≤ W) (hdg : decode c.code g.pc = .ok (.invokevirtual index, 3))
    (hpre : ∀ vm₁, s.WarmedH vm₁ → Pre ⟨T.setVm vm₁, locs, cells, slots⟩ (Value.ref b :: argsL).toArray) :
    (∃ (v : Option Value) (vm₁ : Vm) (B : Pt), s.WarmedH vm₁ ∧ Stand p l e R s m args below meth c B.U B.locs B.cells B.slots ∧ Post ⟨T.setVm vm₁, locs, cells, slots⟩ (Value.ref b :: argsL).toArray v B ∧
      ∀ target, Steps p.tables e below (B.U.setTop { g with pc := g.pc + 3, stack := v.toList ++ rest }) target → Steps p.tables e below (T.setTop g) target) ∨
    (∃ (q : Addr) (vm₁ : Vm) (B : Pt), s.WarmedH vm₁ ∧ Stand p l e R s m args below meth c B.U B.locs B.cells B.slots ∧ PostX ⟨T.setVm vm₁, locs, cells, slots⟩ (Value.ref b :: argsL).toArray q B ∧
      Steps p.tables e below (T.setTop g) ((B.U.setTop { g with stack := rest }).pushFrame (.throwing q))) := by
  obtain ⟨mk, methM, hnamed, hmethM, hstM, habM⟩ := Cond.instanceMethod_spec hinst
  obtain ⟨methM', cM, hmethM', -, -, -, -, -, -, hsigM⟩ := Cond.code_spec hnamed hcode
  cases hmethM.symm.trans hmethM'
  obtain ⟨c2, r2, m2, q1, q2, q3, q4, kP, hkP, hkPi⟩ := Cond.selects_spec hsel
  cases hcls.symm.trans q1
  cases (State.methodFound?_of_named hnamed hy).symm.trans q2
  cases hnamed.symm.trans q3
  have hselP : selectMethod e.platform s.vm cellB.cls mk = .method mk := by rw [Launch.admits_selectMethod X.admits]; exact q4
  obtain ⟨vm₁, X₁, hstep₁⟩ := X.invokevirtualNest hexec hown hlink hnamed hmethM hstM hkP hkPi hy (a := b) (cell := cellB) hcell
    (fun z h => by rw [h] at hobj; cases hobj) hselP hmethM habM hkP hkPi (g := g) hg (argsL := argsL) (rest := rest) (hlen _ hsigM) hstack hdg
  rcases hK m meth c ⟨T.setVm vm₁, locs, cells, slots⟩ { g with stack := rest } (.invokevirtual index) mk (Value.ref b :: argsL).toArray X₁ hg hsize hdg hW (X₁.named hnamed) (hpre vm₁ X₁.warmed) with ⟨v, B, X', hpost, hsteps⟩ | ⟨q, B, X', hpost, hsteps⟩
  · exact Or.inl ⟨v, vm₁, B, X₁.warmed, X', hpost, fun target h => hstep₁ _ fun acts => by rw [doInvoke_state]; exact hsteps.trans h⟩
  · exact Or.inr ⟨q, vm₁, B, X₁.warmed, X', hpost, hstep₁ _ fun acts => by rw [doInvoke_state]; exact hsteps⟩
theorem vx_callSN (X : Stand p l e R s m args below meth c T locs cells slots) (hexec : p.tables.exec = Jvm.exec) {own : String} {index : Nat} {host : String} {y : MethodName} {bytes : ByteArray} {maxL : Nat} {ret : Option FieldType}
    (hown : s.vm.findClass own = some m.cls) (hlink : (Cond.methodLinkNest own index y host).before args s = true) (hstat : (Cond.static y).before args s = true) (hinit : (Cond.initialized y.cls).before args s = true)
    (hcode : (Cond.code y bytes maxL ret).before args s = true) (hy : y.cls ≠ "java/lang/invoke/MethodHandle" ∧ y.cls ≠ "java/lang/invoke/VarHandle")
    {W : Nat} {Pre : Pt → Array Value → Prop} {Post : Pt → Array Value → Option Value → Pt → Prop} {PostX : Pt → Array Value → Addr → Pt → Prop} (hK : vx_Back l R p e below s args y 3 W Pre Post PostX)
    {g : JFrame} (hg : g.method = m) (hsize : g.locals.size = c.maxLocals) {argsL rest : List Value} (hlen : ∀ sig, parseMethodDescriptor y.desc = some sig → argsL.length = sig.parameters.length)
    (hstack : g.stack = argsL.reverse ++ rest) (hW : 2 * g.monitorRoom + (rest.map fun v => v.category).sum ≤ W) (hdg : decode c.code g.pc = .ok (.invokestatic index, 3))
    (hpre : ∀ vm₁, s.WarmedH vm₁ → Pre ⟨T.setVm vm₁, locs, cells, slots⟩ argsL.toArray) :
    (∃ (v : Option Value) (vm₁ : Vm) (B : Pt), s.WarmedH vm₁ ∧ Stand p l e R s m args below meth c B.U B.locs B.cells B.slots ∧ Post ⟨T.setVm vm₁, locs, cells, slots⟩ argsL.toArray v B ∧
      ∀ target, Steps p.tables e below (B.U.setTop { g with pc := g.pc + 3, stack := v.toList ++ rest }) target → Steps p.tables e below (T.setTop g) target) ∨
    (∃ (q : Addr) (vm₁ : Vm) (B : Pt), s.WarmedH vm₁ ∧ Stand p l e R s m args below meth c B.U B.locs B.cells B.slots ∧ PostX ⟨T.setVm vm₁, locs, cells, slots⟩ argsL.toArray q B ∧
      Steps p.tables e below (T.setTop g) ((B.U.setTop { g with stack := rest }).pushFrame (.throwing q))) := by
  obtain ⟨mk, hnamed⟩ := Cond.code_named hcode
  obtain ⟨methM, cM, hmethM, -, -, -, -, -, -, hsigM⟩ := Cond.code_spec hnamed hcode
  have hstatic : methM.isStatic = true := Cond.static_spec hnamed hmethM hstat
  obtain ⟨kP, hkP, -⟩ := className_of_methodNamed hnamed
  have hinitP : kP.init = .initialized := Cond.initialized_spec (findClass_of_methodNamed hnamed) hkP hinit
  obtain ⟨vm₁, X₁, hstep₁⟩ := X.invokestaticNest hexec hown hlink hnamed hmethM hstatic hkP hinitP hy (g := g) hg (argsL := argsL) (rest := rest) (hlen _ hsigM) hstack hdg
  rcases hK m meth c ⟨T.setVm vm₁, locs, cells, slots⟩ { g with stack := rest } (.invokestatic index) mk argsL.toArray X₁ hg hsize hdg hW (X₁.named hnamed) (hpre vm₁ X₁.warmed) with ⟨v, B, X', hpost, hsteps⟩ | ⟨q, B, X', hpost, hsteps⟩
  · exact Or.inl ⟨v, vm₁, B, X₁.warmed, X', hpost, fun target h => hstep₁ _ fun acts => by rw [doInvoke_state]; exact hsteps.trans h⟩
  · exact Or.inr ⟨q, vm₁, B, X₁.warmed, X', hpost, hstep₁ _ fun acts => by rw [doInvoke_state]; exact hsteps⟩
theorem vx_runVN {y : MethodName} {bytes cc : ByteArray} {maxL nL mc ms n index : Nat} {ret : Option FieldType} {ws : List Cond} {rm : Room} {Pc : Array Value → State → Prop} {Qc : Array Value → State → Outcome → State → Prop} {XC : String → State → State → Prop} {free : Addr → Prop} {Ts : List Cond} {own C host : String} {b : Addr} {As rest : List Value} {g : JFrame}
    (S : CallFix p m c cc nL s args Ts own) (hM : vx_Met l y ws rm Pc Qc XC mc ms free) (cw : va_CN R s args own index y host bytes maxL ret ws rm mc ms n ∧ (Cond.instanceMethod y).before args s = true ∧ (Cond.selects C y y).before args s = true) (hp : PreV s H C b Pc As)
    (hg : g.method = m) (hn : As.length = n) (hsize : g.locals.size = nL) (hstack : g.stack = As.reverse ++ .ref b :: rest) (hW : 2 * g.monitorRoom + (rest.map fun v => v.category).sum ≤ 8) (hdg : decode cc g.pc = .ok (.invokevirtual index, 3)) (hf : cells + mc ≤ R.cells ∧ slots + ms ≤ R.slots) :
    vx_Run p l e R s m args below meth c H locs cells slots mc ms g rest (Qc (Value.ref b :: As).toArray) XC free := by
  obtain ⟨⟨⟨hrc, hrs, hfr, hlo, hws, hcw⟩, hcode, hini, hy, hlen, hl⟩, hx1, hx2⟩ := cw
  have hK : vx_Back l R p e below s args y 3 8 (PreOf R mc ms Pc) (PostOf Qc mc ms free) (vx_Post XC mc ms free) := vx_back (bytes := bytes) (maxL := maxL) (ret := ret) hM hp.1 hrc hrs hfr hlo hws hcw (fun a' U hW => word_at hW (Or.inl (by first | rfl | simp [Cond.onTables, Cond.keeps, Cond.steady])) hini)
  obtain ⟨hx, hb, hml, ho, -⟩ := S
  obtain ⟨-, ⟨cellB, hcB, hoB, hclB⟩, hPc⟩ := hp
  intro T hT X
  rcases vx_callVN X hx (C := C) (bytes := bytes) (maxL := maxL) (ret := ret) ho hl hx1 hx2 hcode hy hK (by rw [hT]; exact hcB) hoB hclB hg (hsize.trans hml.symm) (argsL := As) (rest := rest) (fun sig h => hn.trans (hlen sig h)) hstack hW (by rw [hb]; exact hdg)
    (fun vm₁ hW₁ => ⟨hf.1, hf.2, hPc (T.setVm vm₁) hT hW₁⟩) with ⟨v, vm₁, ⟨U', l2, c2, s2⟩, hW₁, X', ⟨g', mk, t, L, e1, e2, hq, h1, hL, h2, h3⟩, st⟩ | ⟨q, vm₁, ⟨U', l2, c2, s2⟩, hW₁, X', ⟨g', mk, t, L, E, ce, e1, e2, hq, hce, hcv, hcl, h1, hL, h2, h3⟩, st⟩
  · dsimp only [Pt.U, Pt.locs, Pt.cells, Pt.slots] at X' e1 e2 h1 h2 h3 st
    subst h1; subst h2; subst h3
    exact Or.inl ⟨v, (T.setVm vm₁).calling g' mk (Value.ref b :: As).toArray, t, U', L, hT, X', hL, e1, e2, hq, st⟩
  · dsimp only [Pt.U, Pt.locs, Pt.cells, Pt.slots] at X' e1 e2 h1 h2 h3 st hcl
    subst h1; subst h2; subst h3
    exact Or.inr ⟨q, (T.setVm vm₁).calling g' mk (Value.ref b :: As).toArray, t, U', L, E, ce, hT, X', hL, e1, e2, hq, hce, hcv, vx_cls hW₁ hcl, st⟩
theorem vx_runSN {y : MethodName} {bytes cc : ByteArray} {maxL nL mc ms n index : Nat} {ret : Option FieldType} {ws : List Cond} {rm : Room} {Pc : Array Value → State → Prop} {Qc : Array Value → State → Outcome → State → Prop} {XC : String → State → State → Prop} {free : Addr → Prop} {Ts : List Cond} {own host : String} {As rest : List Value} {g : JFrame}
    (S : CallFix p m c cc nL s args Ts own) (hM : vx_Met l y ws rm Pc Qc XC mc ms free) (cw : va_CN R s args own index y host bytes maxL ret ws rm mc ms n ∧ (Cond.static y).before args s = true ∧ True) (hp : PreS s H Pc As)
    (hg : g.method = m) (hn : As.length = n) (hsize : g.locals.size = nL) (hstack : g.stack = As.reverse ++ rest) (hW : 2 * g.monitorRoom + (rest.map fun v => v.category).sum ≤ 8) (hdg : decode cc g.pc = .ok (.invokestatic index, 3)) (hf : cells + mc ≤ R.cells ∧ slots + ms ≤ R.slots) :
    vx_Run p l e R s m args below meth c H locs cells slots mc ms g rest (Qc As.toArray) XC free := by
  obtain ⟨⟨⟨hrc, hrs, hfr, hlo, hws, hcw⟩, hcode, hini, hy, hlen, hl⟩, hx1, hx2⟩ := cw
  have hK : vx_Back l R p e below s args y 3 8 (PreOf R mc ms Pc) (PostOf Qc mc ms free) (vx_Post XC mc ms free) := vx_back (bytes := bytes) (maxL := maxL) (ret := ret) hM hp.1 hrc hrs hfr hlo hws hcw (fun a' U hW => word_at hW (Or.inl (by first | rfl | simp [Cond.onTables, Cond.keeps, Cond.steady])) hini)
  obtain ⟨hx, hb, hml, ho, -⟩ := S
  have hPc := hp.2
  intro T hT X
  rcases vx_callSN X hx (bytes := bytes) (maxL := maxL) (ret := ret) ho hl hx1 hini hcode hy hK hg (hsize.trans hml.symm) (argsL := As) (rest := rest) (fun sig h => hn.trans (hlen sig h)) hstack hW (by rw [hb]; exact hdg)
    (fun vm₁ hW₁ => ⟨hf.1, hf.2, hPc (T.setVm vm₁) hT hW₁⟩) with ⟨v, vm₁, ⟨U', l2, c2, s2⟩, hW₁, X', ⟨g', mk, t, L, e1, e2, hq, h1, hL, h2, h3⟩, st⟩ | ⟨q, vm₁, ⟨U', l2, c2, s2⟩, hW₁, X', ⟨g', mk, t, L, E, ce, e1, e2, hq, hce, hcv, hcl, h1, hL, h2, h3⟩, st⟩
  · dsimp only [Pt.U, Pt.locs, Pt.cells, Pt.slots] at X' e1 e2 h1 h2 h3 st
    subst h1; subst h2; subst h3
    exact Or.inl ⟨v, (T.setVm vm₁).calling g' mk As.toArray, t, U', L, hT, X', hL, e1, e2, hq, st⟩
  · dsimp only [Pt.U, Pt.locs, Pt.cells, Pt.slots] at X' e1 e2 h1 h2 h3 st hcl
    subst h1; subst h2; subst h3
    exact Or.inr ⟨q, (T.setVm vm₁).calling g' mk As.toArray, t, U', L, E, ce, hT, X', hL, e1, e2, hq, hce, hcv, vx_cls hW₁ hcl, st⟩
end
/-! ===== END ===== -/
/-! ===== BEGIN calls by an interface of methods that may throw (vx_callIF, vx_runF follow va_callIF, va_runF of this kit) ===== -/
section
variable {p : Program} {l : Launch} {e : Env} {R : Room} {s : State} {m : MethodId} {args : Array Value} {below : List Frame} {meth : Method} {c : Code} {H : Heap} {locs : List Loc} {cells slots : Nat} {Q : State → Prop}
variable {mc ms : Nat} {free : Addr → Prop} {A0 A1 : Nat → Prop} {H0 : Heap} {a : Array Value} {pc : Nat} {ls : Array Slot} {st0 rest : List Value}
def vx_Run5 (p : Program) (l : Launch) (e : Env) (R : Room) (s : State) (m : MethodId) (args : Array Value) (below : List Frame) (meth : Method) (c : Code) (H : Heap) (locs : List Loc) (cells slots mc ms : Nat) (g : JFrame) (rest : List Value) (Qa : State → Outcome → State → Prop) (XC : String → State → State → Prop) (free : Addr → Prop) : Prop :=
  ∀ T : State, T.heap = H → Stand p l e R s m args below meth c T locs cells slots →
    (∃ (v : Option Value) (st₀ t T' : State) (L : List Loc), st₀.heap = H ∧ Stand p l e R s m args below meth c T' (locs ++ L) (cells + mc) (slots + ms) ∧ (∀ q ∈ L, free q.base) ∧ T'.heap = t.heap ∧ T'.vm = t.vm ∧ Qa st₀ (.returned v) t ∧
      Goes p e below T g T' { g with pc := g.pc + 5, stack := v.toList ++ rest }) ∨
    (∃ (q : Addr) (st₀ t T' : State) (L : List Loc) (E : String) (ce : Cell), st₀.heap = H ∧ Stand p l e R s m args below meth c T' (locs ++ L) (cells + mc) (slots + ms) ∧ (∀ z ∈ L, free z.base) ∧ T'.heap = t.heap ∧ T'.vm = t.vm ∧ XC E st₀ t ∧ t.heap[q]? = some ce ∧ ce.vm = .none ∧ s.vm.findClass E = some ce.cls ∧
      Steps p.tables e below (T.setTop g) ((T'.setTop { g with stack := rest }).pushFrame (.throwing q)))
theorem vx_callIF {T : State} (X : Stand p l e R s m args below meth c T locs cells slots) (hexec : p.tables.exec = Jvm.exec) {own C : String} {index count : Nat} {x y : MethodName} {bytes : ByteArray} {maxL : Nat} {ret : Option FieldType}
    (hown : s.vm.findClass own = some m.cls) (hlink : (Cond.methodLink own index x).before args s = true) (hdecl : (Cond.declares x).before args s = true) (hface : (Cond.interfaceMethod x.cls x.cls x.name x.desc).before args s = true)
    (hsel : (Cond.selects C x y).before args s = true) (hinst : (Cond.instanceMethod y).before args s = true) (hpub : (Cond.publicMethod y).before args s = true) (hunh : (Cond.unhidden C x.name x.desc).before args s = true)
    (hcast : (Cond.castable C x.cls).before args s = true) (hcode : (Cond.code y bytes maxL ret).before args s = true) (hx : x.cls ≠ "java/lang/invoke/MethodHandle" ∧ x.cls ≠ "java/lang/invoke/VarHandle")
    {W9 : Nat} {Pre : Pt → Array Value → Prop} {Post : Pt → Array Value → Option Value → Pt → Prop} {PostX : Pt → Array Value → Addr → Pt → Prop} (hK : vx_Back l R p e below s args y 5 W9 Pre Post PostX)
    {b : Addr} {cellB : Cell} {kB : Class} (hcell : T.heap[b]? = some cellB) (hobj : cellB.vm.isStatics = false) (hcls : s.vm.findClass C = some cellB.cls) (hkB : s.vm.classes[cellB.cls]? = some kB)
    {g : JFrame} (hg : g.method = m) (hsize : g.locals.size = c.maxLocals) {argsL rest : List Value} (hlen : ∀ sig, parseMethodDescriptor x.desc = some sig → argsL.length = sig.parameters.length)
    (hstack : g.stack = argsL.reverse ++ .ref b :: rest) (hW : 2 * g.monitorRoom + (rest.map fun v => v.category).sum ≤ W9) (hdg : decode c.code g.pc = .ok (.invokeinterface index count, 5))
    (hpre : ∀ vm₁, s.WarmedH vm₁ → Pre ⟨T.setVm vm₁, locs, cells, slots⟩ (Value.ref b :: argsL).toArray) :
    (∃ (v : Option Value) (vm₁ : Vm) (B : Pt), s.WarmedH vm₁ ∧ Stand p l e R s m args below meth c B.U B.locs B.cells B.slots ∧ Post ⟨T.setVm vm₁, locs, cells, slots⟩ (Value.ref b :: argsL).toArray v B ∧
      ∀ target, Steps p.tables e below (B.U.setTop { g with pc := g.pc + 5, stack := v.toList ++ rest }) target → Steps p.tables e below (T.setTop g) target) ∨
    (∃ (q : Addr) (vm₁ : Vm) (B : Pt), s.WarmedH vm₁ ∧ Stand p l e R s m args below meth c B.U B.locs B.cells B.slots ∧ PostX ⟨T.setVm vm₁, locs, cells, slots⟩ (Value.ref b :: argsL).toArray q B ∧
      Steps p.tables e below (T.setTop g) ((B.U.setTop { g with stack := rest }).pushFrame (.throwing q))) := by
  obtain ⟨r0, r, hn, hrm, hstR, hsigR⟩ := Cond.declares_spec hdecl
  obtain ⟨cL, kL, r1, hcL, hkL, hiL, hfoundL, hn1⟩ := Cond.interfaceMethod_spec hface
  cases hn.symm.trans hn1
  have hr0cls : r0.cls = cL := Option.some.inj ((findClass_of_methodNamed hn).symm.trans hcL)
  obtain ⟨hnameR, hdescR⟩ := name_of_methodNamed hn hrm
  obtain ⟨mk, methM, hnamed, hmethM, -, habM⟩ := Cond.instanceMethod_spec hinst
  obtain ⟨c2, r2, m2, q1, q2, q3, q4, -⟩ := Cond.selects_spec hsel
  cases hcls.symm.trans q1
  cases hfoundL.symm.trans q2
  cases hnamed.symm.trans q3
  have hselP : selectMethod e.platform s.vm cellB.cls r0 = .method mk := by rw [Launch.admits_selectMethod X.admits]; exact q4
  have hpubM : hasFlag methM.accessFlags Acc.public_ = true := Cond.publicMethod_spec hnamed hmethM hpub
  have hway : ((cellB.cls :: s.vm.superclasses cellB.cls).any fun k => (declaredIn s.vm r.name r.desc k).any fun (_, z) => z.isPrivate || z.isStatic) = false := by
    rw [hnameR, hdescR]; exact Cond.unhidden_spec hcls hunh
  obtain ⟨c3, t3, w1, w2, w3⟩ := Cond.castable_spec hcast
  cases hcls.symm.trans w1
  cases hcL.symm.trans w2
  obtain ⟨vm₁, X₁, hstep₁⟩ := X.invokeinterface hexec hown hlink hn hrm hstR (by rw [hr0cls]; exact hkL) hiL hx (a := b) (cell := cellB) (kcell := kB) hcell
    (fun z h => by rw [h] at hobj; cases hobj) hkB (by rw [hr0cls]; exact w3) hselP hmethM hway hpubM habM (g := g) hg (argsL := argsL) (rest := rest) (hlen _ hsigR) hstack hdg
  rcases hK m meth c ⟨T.setVm vm₁, locs, cells, slots⟩ { g with stack := rest } (.invokeinterface index count) mk (Value.ref b :: argsL).toArray X₁ hg hsize hdg hW (X₁.named hnamed) (hpre vm₁ X₁.warmed) with ⟨v, B, X', hpost, hsteps⟩ | ⟨q, B, X', hpost, hsteps⟩
  · exact Or.inl ⟨v, vm₁, B, X₁.warmed, X', hpost, fun target h => hstep₁ _ fun acts => by rw [doInvoke_state]; exact hsteps.trans h⟩
  · exact Or.inr ⟨q, vm₁, B, X₁.warmed, X', hpost, hstep₁ _ fun acts => by rw [doInvoke_state]; exact hsteps⟩
theorem vx_runF {x y : MethodName} {bytes cc : ByteArray} {maxL nL mc ms n index count : Nat} {ret : Option FieldType} {ws : List Cond} {rm : Room} {Pc : Array Value → State → Prop} {Qc : Array Value → State → Outcome → State → Prop} {XC : String → State → State → Prop} {free : Addr → Prop} {Ts : List Cond} {own C : String} {cC : ClassId} {b : Addr} {As rest : List Value} {g : JFrame}
    (hat : ClassAt s C cC) (S : CallFix p m c cc nL s args Ts own) (hM : vx_Met l y ws rm Pc Qc XC mc ms free) (cw : va_CI R s args own C index x y bytes maxL ret ws rm mc ms n) (hp : PreV s H C b Pc As)
    (hg : g.method = m) (hn : As.length = n) (hsize : g.locals.size = nL) (hstack : g.stack = As.reverse ++ .ref b :: rest) (hW : 2 * g.monitorRoom + (rest.map fun v => v.category).sum ≤ 8) (hdg : decode cc g.pc = .ok (.invokeinterface index count, 5)) (hf : cells + mc ≤ R.cells ∧ slots + ms ≤ R.slots) :
    vx_Run5 p l e R s m args below meth c H locs cells slots mc ms g rest (Qc (Value.ref b :: As).toArray) XC free := by
  obtain ⟨hrc, hrs, hfr, hlo, hws, hcw⟩ := cw.back
  have hini := cw.init
  have hK : vx_Back l R p e below s args y 5 8 (PreOf R mc ms Pc) (PostOf Qc mc ms free) (vx_Post XC mc ms free) := vx_back (bytes := bytes) (maxL := maxL) (ret := ret) hM hp.1 hrc hrs hfr hlo hws hcw (fun a' U hW => word_at hW (Or.inl (by first | rfl | simp [Cond.onTables, Cond.keeps, Cond.steady])) hini)
  obtain ⟨hx, hb, hml, ho, -⟩ := S
  obtain ⟨-, ⟨cellB, hcB, hoB, hclB⟩, hPc⟩ := hp
  obtain ⟨hfc, kB, hkB, -⟩ := hat
  cases hfc.symm.trans hclB
  intro T hT X
  rcases vx_callIF X hx (C := C) (bytes := bytes) (maxL := maxL) (ret := ret) ho cw.link cw.decl cw.face cw.sel cw.inst cw.pub cw.unh cw.cast cw.code cw.notMH hK (by rw [hT]; exact hcB) hoB hclB hkB hg (hsize.trans hml.symm) (argsL := As) (rest := rest) (fun sig h => hn.trans (cw.len sig h)) hstack hW (by rw [hb]; exact hdg)
    (fun vm₁ hW₁ => ⟨hf.1, hf.2, hPc (T.setVm vm₁) hT hW₁⟩) with ⟨v, vm₁, ⟨U', l2, c2, s2⟩, hW₁, X', ⟨g', mk, t, L, e1, e2, hq, h1, hL, h2, h3⟩, st⟩ | ⟨q, vm₁, ⟨U', l2, c2, s2⟩, hW₁, X', ⟨g', mk, t, L, E, ce, e1, e2, hq, hce, hcv, hcl, h1, hL, h2, h3⟩, st⟩
  · dsimp only [Pt.U, Pt.locs, Pt.cells, Pt.slots] at X' e1 e2 h1 h2 h3 st
    subst h1; subst h2; subst h3
    exact Or.inl ⟨v, (T.setVm vm₁).calling g' mk (Value.ref b :: As).toArray, t, U', L, hT, X', hL, e1, e2, hq, st⟩
  · dsimp only [Pt.U, Pt.locs, Pt.cells, Pt.slots] at X' e1 e2 h1 h2 h3 st hcl
    subst h1; subst h2; subst h3
    exact Or.inr ⟨q, (T.setVm vm₁).calling g' mk (Value.ref b :: As).toArray, t, U', L, E, ce, hT, X', hL, e1, e2, hq, hce, hcv, vx_cls hW₁ hcl, st⟩
theorem vx_callFv {S SX : Type} {post : S → Prop} {px : SX → Prop} {B : S → State → Prop} {BX : String → SX → State → Prop} {AX : Nat → Prop} (hr : vx_Run5 p l e R s m args below meth c H locs cells slots mc ms (F0 m pc ls st0) rest (va_Qv post B A1 a) (vx_X px BX AX) free) (hS : va_S A0 H0 H locs) (hA : ∀ q, q < H.size → A1 q → A0 q) (hf : ∀ q, free q → A0 q) (hAX : ∀ q, q < H.size → AX q → A0 q)
    (kx : ∀ (E : String) (ce : Cell) (q9 : Addr) (u : SX) (t : State) (H1 : Heap) (locs1 : List Loc), t.heap = H1 → s.vm.Alike t.vm → px u → BX E u t → H.size ≤ H1.size → (∀ q : Nat, q < H.size → ¬ AX q → H1[q]? = H[q]?) → va_S A0 H0 H1 locs1 → H1[q9]? = some ce → ce.vm = .none → s.vm.findClass E = some ce.cls → vx_W p l e R s m args below meth c H1 locs1 (cells + mc) (slots + ms) Q (F0 m pc ls rest) q9)
    (kk : ∀ (u : S) (t : State) (H1 : Heap) (locs1 : List Loc), t.heap = H1 → s.vm.Alike t.vm → post u → B u t → H.size ≤ H1.size → (∀ q : Nat, q < H.size → ¬ A1 q → H1[q]? = H[q]?) → va_S A0 H0 H1 locs1 → W p l e R s m args below meth c H1 locs1 (cells + mc) (slots + ms) Q (F0 m (pc + 5) ls (rest))) : W p l e R s m args below meth c H locs cells slots Q (F0 m pc ls st0) := by
  intro T hT X
  rcases hr T hT X with ⟨v, st₀, t, T', L, h0, X', hL, e1, e2, ⟨⟨u, hv, hp, hb⟩, hF⟩, st⟩ | ⟨q, st₀, t, T', L, E, ce, h0, X', hL, e1, e2, ⟨u, hp, hb, hF⟩, hce, hcv, hcl, st⟩
  · cases hv
    obtain ⟨k1, k2, k3⟩ := vx_keep h0 e1 hS hA hf hL hF
    obtain ⟨t2, a1, b1⟩ := kk u t T'.heap (locs ++ L) e1.symm (by rw [← e2]; exact X'.warmed.alike) hp hb k1 k2 k3 T' rfl X'
    exact ⟨t2, st t2 a1, b1⟩
  · obtain ⟨k1, k2, k3⟩ := vx_keep h0 e1 hS hAX hf hL hF
    obtain ⟨t2, a1, b1⟩ := kx E ce q u t T'.heap (locs ++ L) e1.symm (by rw [← e2]; exact X'.warmed.alike) hp hb k1 k2 k3 (by rw [e1]; exact hce) hcv hcl T' rfl X'
    exact ⟨t2, st.trans a1, b1⟩
theorem vx_callFi {S SX : Type} {post : Int32 → S → Prop} {px : SX → Prop} {B : S → State → Prop} {BX : String → SX → State → Prop} {AX : Nat → Prop} (hr : vx_Run5 p l e R s m args below meth c H locs cells slots mc ms (F0 m pc ls st0) rest (va_Qi post B A1 a) (vx_X px BX AX) free) (hS : va_S A0 H0 H locs) (hA : ∀ q, q < H.size → A1 q → A0 q) (hf : ∀ q, free q → A0 q) (hAX : ∀ q, q < H.size → AX q → A0 q)
    (kx : ∀ (E : String) (ce : Cell) (q9 : Addr) (u : SX) (t : State) (H1 : Heap) (locs1 : List Loc), t.heap = H1 → s.vm.Alike t.vm → px u → BX E u t → H.size ≤ H1.size → (∀ q : Nat, q < H.size → ¬ AX q → H1[q]? = H[q]?) → va_S A0 H0 H1 locs1 → H1[q9]? = some ce → ce.vm = .none → s.vm.findClass E = some ce.cls → vx_W p l e R s m args below meth c H1 locs1 (cells + mc) (slots + ms) Q (F0 m pc ls rest) q9)
    (kk : ∀ (r : Int32) (u : S) (t : State) (H1 : Heap) (locs1 : List Loc), t.heap = H1 → s.vm.Alike t.vm → post r u → B u t → H.size ≤ H1.size → (∀ q : Nat, q < H.size → ¬ A1 q → H1[q]? = H[q]?) → va_S A0 H0 H1 locs1 → W p l e R s m args below meth c H1 locs1 (cells + mc) (slots + ms) Q (F0 m (pc + 5) ls (.int r :: rest))) : W p l e R s m args below meth c H locs cells slots Q (F0 m pc ls st0) := by
  intro T hT X
  rcases hr T hT X with ⟨v, st₀, t, T', L, h0, X', hL, e1, e2, ⟨⟨r, u, hv, hp, hb⟩, hF⟩, st⟩ | ⟨q, st₀, t, T', L, E, ce, h0, X', hL, e1, e2, ⟨u, hp, hb, hF⟩, hce, hcv, hcl, st⟩
  · cases hv
    obtain ⟨k1, k2, k3⟩ := vx_keep h0 e1 hS hA hf hL hF
    obtain ⟨t2, a1, b1⟩ := kk r u t T'.heap (locs ++ L) e1.symm (by rw [← e2]; exact X'.warmed.alike) hp hb k1 k2 k3 T' rfl X'
    exact ⟨t2, st t2 a1, b1⟩
  · obtain ⟨k1, k2, k3⟩ := vx_keep h0 e1 hS hAX hf hL hF
    obtain ⟨t2, a1, b1⟩ := kx E ce q u t T'.heap (locs ++ L) e1.symm (by rw [← e2]; exact X'.warmed.alike) hp hb k1 k2 k3 (by rw [e1]; exact hce) hcv hcl T' rfl X'
    exact ⟨t2, st.trans a1, b1⟩
theorem vx_callFl {S SX : Type} {post : Int64 → S → Prop} {px : SX → Prop} {B : S → State → Prop} {BX : String → SX → State → Prop} {AX : Nat → Prop} (hr : vx_Run5 p l e R s m args below meth c H locs cells slots mc ms (F0 m pc ls st0) rest (va_Ql post B A1 a) (vx_X px BX AX) free) (hS : va_S A0 H0 H locs) (hA : ∀ q, q < H.size → A1 q → A0 q) (hf : ∀ q, free q → A0 q) (hAX : ∀ q, q < H.size → AX q → A0 q)
    (kx : ∀ (E : String) (ce : Cell) (q9 : Addr) (u : SX) (t : State) (H1 : Heap) (locs1 : List Loc), t.heap = H1 → s.vm.Alike t.vm → px u → BX E u t → H.size ≤ H1.size → (∀ q : Nat, q < H.size → ¬ AX q → H1[q]? = H[q]?) → va_S A0 H0 H1 locs1 → H1[q9]? = some ce → ce.vm = .none → s.vm.findClass E = some ce.cls → vx_W p l e R s m args below meth c H1 locs1 (cells + mc) (slots + ms) Q (F0 m pc ls rest) q9)
    (kk : ∀ (r : Int64) (u : S) (t : State) (H1 : Heap) (locs1 : List Loc), t.heap = H1 → s.vm.Alike t.vm → post r u → B u t → H.size ≤ H1.size → (∀ q : Nat, q < H.size → ¬ A1 q → H1[q]? = H[q]?) → va_S A0 H0 H1 locs1 → W p l e R s m args below meth c H1 locs1 (cells + mc) (slots + ms) Q (F0 m (pc + 5) ls (.long r :: rest))) : W p l e R s m args below meth c H locs cells slots Q (F0 m pc ls st0) := by
  intro T hT X
  rcases hr T hT X with ⟨v, st₀, t, T', L, h0, X', hL, e1, e2, ⟨⟨r, u, hv, hp, hb⟩, hF⟩, st⟩ | ⟨q, st₀, t, T', L, E, ce, h0, X', hL, e1, e2, ⟨u, hp, hb, hF⟩, hce, hcv, hcl, st⟩
  · cases hv
    obtain ⟨k1, k2, k3⟩ := vx_keep h0 e1 hS hA hf hL hF
    obtain ⟨t2, a1, b1⟩ := kk r u t T'.heap (locs ++ L) e1.symm (by rw [← e2]; exact X'.warmed.alike) hp hb k1 k2 k3 T' rfl X'
    exact ⟨t2, st t2 a1, b1⟩
  · obtain ⟨k1, k2, k3⟩ := vx_keep h0 e1 hS hAX hf hL hF
    obtain ⟨t2, a1, b1⟩ := kx E ce q u t T'.heap (locs ++ L) e1.symm (by rw [← e2]; exact X'.warmed.alike) hp hb k1 k2 k3 (by rw [e1]; exact hce) hcv hcl T' rfl X'
    exact ⟨t2, st.trans a1, b1⟩
theorem vx_callFf {S SX : Type} {post : UInt32 → S → Prop} {px : SX → Prop} {B : S → State → Prop} {BX : String → SX → State → Prop} {AX : Nat → Prop} (hr : vx_Run5 p l e R s m args below meth c H locs cells slots mc ms (F0 m pc ls st0) rest (va_Qf post B A1 a) (vx_X px BX AX) free) (hS : va_S A0 H0 H locs) (hA : ∀ q, q < H.size → A1 q → A0 q) (hf : ∀ q, free q → A0 q) (hAX : ∀ q, q < H.size → AX q → A0 q)
    (kx : ∀ (E : String) (ce : Cell) (q9 : Addr) (u : SX) (t : State) (H1 : Heap) (locs1 : List Loc), t.heap = H1 → s.vm.Alike t.vm → px u → BX E u t → H.size ≤ H1.size → (∀ q : Nat, q < H.size → ¬ AX q → H1[q]? = H[q]?) → va_S A0 H0 H1 locs1 → H1[q9]? = some ce → ce.vm = .none → s.vm.findClass E = some ce.cls → vx_W p l e R s m args below meth c H1 locs1 (cells + mc) (slots + ms) Q (F0 m pc ls rest) q9)
    (kk : ∀ (r : UInt32) (u : S) (t : State) (H1 : Heap) (locs1 : List Loc), t.heap = H1 → s.vm.Alike t.vm → post r u → B u t → H.size ≤ H1.size → (∀ q : Nat, q < H.size → ¬ A1 q → H1[q]? = H[q]?) → va_S A0 H0 H1 locs1 → W p l e R s m args below meth c H1 locs1 (cells + mc) (slots + ms) Q (F0 m (pc + 5) ls (.float r :: rest))) : W p l e R s m args below meth c H locs cells slots Q (F0 m pc ls st0) := by
  intro T hT X
  rcases hr T hT X with ⟨v, st₀, t, T', L, h0, X', hL, e1, e2, ⟨⟨r, u, hv, hp, hb⟩, hF⟩, st⟩ | ⟨q, st₀, t, T', L, E, ce, h0, X', hL, e1, e2, ⟨u, hp, hb, hF⟩, hce, hcv, hcl, st⟩
  · cases hv
    obtain ⟨k1, k2, k3⟩ := vx_keep h0 e1 hS hA hf hL hF
    obtain ⟨t2, a1, b1⟩ := kk r u t T'.heap (locs ++ L) e1.symm (by rw [← e2]; exact X'.warmed.alike) hp hb k1 k2 k3 T' rfl X'
    exact ⟨t2, st t2 a1, b1⟩
  · obtain ⟨k1, k2, k3⟩ := vx_keep h0 e1 hS hAX hf hL hF
    obtain ⟨t2, a1, b1⟩ := kx E ce q u t T'.heap (locs ++ L) e1.symm (by rw [← e2]; exact X'.warmed.alike) hp hb k1 k2 k3 (by rw [e1]; exact hce) hcv hcl T' rfl X'
    exact ⟨t2, st.trans a1, b1⟩
theorem vx_callFd {S SX : Type} {post : UInt64 → S → Prop} {px : SX → Prop} {B : S → State → Prop} {BX : String → SX → State → Prop} {AX : Nat → Prop} (hr : vx_Run5 p l e R s m args below meth c H locs cells slots mc ms (F0 m pc ls st0) rest (va_Qd post B A1 a) (vx_X px BX AX) free) (hS : va_S A0 H0 H locs) (hA : ∀ q, q < H.size → A1 q → A0 q) (hf : ∀ q, free q → A0 q) (hAX : ∀ q, q < H.size → AX q → A0 q)
    (kx : ∀ (E : String) (ce : Cell) (q9 : Addr) (u : SX) (t : State) (H1 : Heap) (locs1 : List Loc), t.heap = H1 → s.vm.Alike t.vm → px u → BX E u t → H.size ≤ H1.size → (∀ q : Nat, q < H.size → ¬ AX q → H1[q]? = H[q]?) → va_S A0 H0 H1 locs1 → H1[q9]? = some ce → ce.vm = .none → s.vm.findClass E = some ce.cls → vx_W p l e R s m args below meth c H1 locs1 (cells + mc) (slots + ms) Q (F0 m pc ls rest) q9)
    (kk : ∀ (r : UInt64) (u : S) (t : State) (H1 : Heap) (locs1 : List Loc), t.heap = H1 → s.vm.Alike t.vm → post r u → B u t → H.size ≤ H1.size → (∀ q : Nat, q < H.size → ¬ A1 q → H1[q]? = H[q]?) → va_S A0 H0 H1 locs1 → W p l e R s m args below meth c H1 locs1 (cells + mc) (slots + ms) Q (F0 m (pc + 5) ls (.double r :: rest))) : W p l e R s m args below meth c H locs cells slots Q (F0 m pc ls st0) := by
  intro T hT X
  rcases hr T hT X with ⟨v, st₀, t, T', L, h0, X', hL, e1, e2, ⟨⟨r, u, hv, hp, hb⟩, hF⟩, st⟩ | ⟨q, st₀, t, T', L, E, ce, h0, X', hL, e1, e2, ⟨u, hp, hb, hF⟩, hce, hcv, hcl, st⟩
  · cases hv
    obtain ⟨k1, k2, k3⟩ := vx_keep h0 e1 hS hA hf hL hF
    obtain ⟨t2, a1, b1⟩ := kk r u t T'.heap (locs ++ L) e1.symm (by rw [← e2]; exact X'.warmed.alike) hp hb k1 k2 k3 T' rfl X'
    exact ⟨t2, st t2 a1, b1⟩
  · obtain ⟨k1, k2, k3⟩ := vx_keep h0 e1 hS hAX hf hL hF
    obtain ⟨t2, a1, b1⟩ := kx E ce q u t T'.heap (locs ++ L) e1.symm (by rw [← e2]; exact X'.warmed.alike) hp hb k1 k2 k3 (by rw [e1]; exact hce) hcv hcl T' rfl X'
    exact ⟨t2, st.trans a1, b1⟩
end
/-! ===== END ===== -/
/-! ===== BEGIN by an interface, a method with a table of its own that may throw (follows va_callIFW, va_runFW) ===== -/
section
variable {p : Program} {l : Launch} {e : Env} {R : Room} {s : State} {m : MethodId} {args : Array Value} {below : List Frame} {meth : Method} {c : Code} {H : Heap} {locs : List Loc} {cells slots : Nat}
theorem vx_callIFW {T : State} (X : Stand p l e R s m args below meth c T locs cells slots) (hexec : p.tables.exec = Jvm.exec) {own C : String} {index count : Nat} {x y : MethodName} {bytes : ByteArray} {maxL : Nat} {ret : Option FieldType} {hh : List (Nat × Nat × Nat × Nat)}
    (hown : s.vm.findClass own = some m.cls) (hlink : (Cond.methodLink own index x).before args s = true) (hdecl : (Cond.declares x).before args s = true) (hface : (Cond.interfaceMethod x.cls x.cls x.name x.desc).before args s = true)
    (hsel : (Cond.selects C x y).before args s = true) (hinst : (Cond.instanceMethod y).before args s = true) (hpub : (Cond.publicMethod y).before args s = true) (hunh : (Cond.unhidden C x.name x.desc).before args s = true)
    (hcast : (Cond.castable C x.cls).before args s = true) (hcode : (Cond.codeWith y bytes maxL ret hh).before args s = true) (hx : x.cls ≠ "java/lang/invoke/MethodHandle" ∧ x.cls ≠ "java/lang/invoke/VarHandle")
    {W : Nat} {Pre : Pt → Array Value → Prop} {Post : Pt → Array Value → Option Value → Pt → Prop} {PostX : Pt → Array Value → Addr → Pt → Prop} (hK : vx_Back l R p e below s args y 5 W Pre Post PostX)
    {b : Addr} {cellB : Cell} {kB : Class} (hcell : T.heap[b]? = some cellB) (hobj : cellB.vm.isStatics = false) (hcls : s.vm.findClass C = some cellB.cls) (hkB : s.vm.classes[cellB.cls]? = some kB)
    {g : JFrame} (hg : g.method = m) (hsize : g.locals.size = c.maxLocals) {argsL rest : List Value} (hlen : ∀ sig, parseMethodDescriptor x.desc = some sig → argsL.length = sig.parameters.length)
    (hstack : g.stack = argsL.reverse ++ .ref b :: rest) (hW : 2 * g.monitorRoom + (rest.map fun v => v.category).sum ≤ W) (hdg : decode c.code g.pc = .ok (.invokeinterface index count, 5))
    (hpre : ∀ vm₁, s.WarmedH vm₁ → Pre ⟨T.setVm vm₁, locs, cells, slots⟩ (Value.ref b :: argsL).toArray) :
    (∃ (v : Option Value) (vm₁ : Vm) (B : Pt), s.WarmedH vm₁ ∧ Stand p l e R s m args below meth c B.U B.locs B.cells B.slots ∧ Post ⟨T.setVm vm₁, locs, cells, slots⟩ (Value.ref b :: argsL).toArray v B ∧
      ∀ target, Steps p.tables e below (B.U.setTop { g with pc := g.pc + 5, stack := v.toList ++ rest }) target → Steps p.tables e below (T.setTop g) target) ∨
    (∃ (q : Addr) (vm₁ : Vm) (B : Pt), s.WarmedH vm₁ ∧ Stand p l e R s m args below meth c B.U B.locs B.cells B.slots ∧ PostX ⟨T.setVm vm₁, locs, cells, slots⟩ (Value.ref b :: argsL).toArray q B ∧
      Steps p.tables e below (T.setTop g) ((B.U.setTop { g with stack := rest }).pushFrame (.throwing q))) := by
  obtain ⟨r0, r, hn, hrm, hstR, hsigR⟩ := Cond.declares_spec hdecl
  obtain ⟨cL, kL, r1, hcL, hkL, hiL, hfoundL, hn1⟩ := Cond.interfaceMethod_spec hface
  cases hn.symm.trans hn1
  have hr0cls : r0.cls = cL := Option.some.inj ((findClass_of_methodNamed hn).symm.trans hcL)
  obtain ⟨hnameR, hdescR⟩ := name_of_methodNamed hn hrm
  obtain ⟨mk, methM, hnamed, hmethM, -, habM⟩ := Cond.instanceMethod_spec hinst
  obtain ⟨c2, r2, m2, q1, q2, q3, q4, -⟩ := Cond.selects_spec hsel
  cases hcls.symm.trans q1
  cases hfoundL.symm.trans q2
  cases hnamed.symm.trans q3
  have hselP : selectMethod e.platform s.vm cellB.cls r0 = .method mk := by rw [Launch.admits_selectMethod X.admits]; exact q4
  have hpubM : hasFlag methM.accessFlags Acc.public_ = true := Cond.publicMethod_spec hnamed hmethM hpub
  have hway : ((cellB.cls :: s.vm.superclasses cellB.cls).any fun k => (declaredIn s.vm r.name r.desc k).any fun (_, z) => z.isPrivate || z.isStatic) = false := by
    rw [hnameR, hdescR]; exact Cond.unhidden_spec hcls hunh
  obtain ⟨c3, t3, w1, w2, w3⟩ := Cond.castable_spec hcast
  cases hcls.symm.trans w1
  cases hcL.symm.trans w2
  obtain ⟨vm₁, X₁, hstep₁⟩ := X.invokeinterface hexec hown hlink hn hrm hstR (by rw [hr0cls]; exact hkL) hiL hx (a := b) (cell := cellB) (kcell := kB) hcell
    (fun z h => by rw [h] at hobj; cases hobj) hkB (by rw [hr0cls]; exact w3) hselP hmethM hway hpubM habM (g := g) hg (argsL := argsL) (rest := rest) (hlen _ hsigR) hstack hdg
  rcases hK m meth c ⟨T.setVm vm₁, locs, cells, slots⟩ { g with stack := rest } (.invokeinterface index count) mk (Value.ref b :: argsL).toArray X₁ hg hsize hdg hW (X₁.named hnamed) (hpre vm₁ X₁.warmed) with ⟨v, B, X', hpost, hsteps⟩ | ⟨q, B, X', hpost, hsteps⟩
  · exact Or.inl ⟨v, vm₁, B, X₁.warmed, X', hpost, fun target h => hstep₁ _ fun acts => by rw [doInvoke_state]; exact hsteps.trans h⟩
  · exact Or.inr ⟨q, vm₁, B, X₁.warmed, X', hpost, hstep₁ _ fun acts => by rw [doInvoke_state]; exact hsteps⟩
theorem vx_runFW {x y : MethodName} {bytes cc : ByteArray} {maxL nL mc ms n index count : Nat} {ret : Option FieldType} {hh : List (Nat × Nat × Nat × Nat)} {ws : List Cond} {rm : Room} {Pc : Array Value → State → Prop} {Qc : Array Value → State → Outcome → State → Prop} {XC : String → State → State → Prop} {free : Addr → Prop} {Ts : List Cond} {own C : String} {cC : ClassId} {b : Addr} {As rest : List Value} {g : JFrame}
    (hat : ClassAt s C cC) (S : CallFix p m c cc nL s args Ts own) (hM : vx_Met l y ws rm Pc Qc XC mc ms free) (cw : va_CIW R s args own C index x y bytes maxL ret hh ws rm mc ms n) (hp : PreV s H C b Pc As)
    (hg : g.method = m) (hn : As.length = n) (hsize : g.locals.size = nL) (hstack : g.stack = As.reverse ++ .ref b :: rest) (hW : 2 * g.monitorRoom + (rest.map fun v => v.category).sum ≤ 8) (hdg : decode cc g.pc = .ok (.invokeinterface index count, 5)) (hf : cells + mc ≤ R.cells ∧ slots + ms ≤ R.slots) :
    vx_Run5 p l e R s m args below meth c H locs cells slots mc ms g rest (Qc (Value.ref b :: As).toArray) XC free := by
  obtain ⟨hrc, hrs, hfr, hlo, hws, hcw⟩ := cw.back
  have hini := cw.init
  have hK : vx_Back l R p e below s args y 5 8 (PreOf R mc ms Pc) (PostOf Qc mc ms free) (vx_Post XC mc ms free) := vx_backW (hh := hh) (bytes := bytes) (maxL := maxL) (ret := ret) hM hp.1 hrc hrs hfr hlo hws hcw (fun a' U hW => word_at hW (Or.inl (by first | rfl | simp [Cond.onTables, Cond.keeps, Cond.steady])) hini)
  obtain ⟨hx, hb, hml, ho, -⟩ := S
  obtain ⟨-, ⟨cellB, hcB, hoB, hclB⟩, hPc⟩ := hp
  obtain ⟨hfc, kB, hkB, -⟩ := hat
  cases hfc.symm.trans hclB
  intro T hT X
  rcases vx_callIFW X hx (C := C) (hh := hh) (bytes := bytes) (maxL := maxL) (ret := ret) ho cw.link cw.decl cw.face cw.sel cw.inst cw.pub cw.unh cw.cast cw.code cw.notMH hK (by rw [hT]; exact hcB) hoB hclB hkB hg (hsize.trans hml.symm) (argsL := As) (rest := rest) (fun sig h => hn.trans (cw.len sig h)) hstack hW (by rw [hb]; exact hdg)
    (fun vm₁ hW₁ => ⟨hf.1, hf.2, hPc (T.setVm vm₁) hT hW₁⟩) with ⟨v, vm₁, ⟨U', l2, c2, s2⟩, hW₁, X', ⟨g', mk, t, L, e1, e2, hq, h1, hL, h2, h3⟩, st⟩ | ⟨q, vm₁, ⟨U', l2, c2, s2⟩, hW₁, X', ⟨g', mk, t, L, E, ce, e1, e2, hq, hce, hcv, hcl, h1, hL, h2, h3⟩, st⟩
  · dsimp only [Pt.U, Pt.locs, Pt.cells, Pt.slots] at X' e1 e2 h1 h2 h3 st
    subst h1; subst h2; subst h3
    exact Or.inl ⟨v, (T.setVm vm₁).calling g' mk (Value.ref b :: As).toArray, t, U', L, hT, X', hL, e1, e2, hq, st⟩
  · dsimp only [Pt.U, Pt.locs, Pt.cells, Pt.slots] at X' e1 e2 h1 h2 h3 st hcl
    subst h1; subst h2; subst h3
    exact Or.inr ⟨q, (T.setVm vm₁).calling g' mk (Value.ref b :: As).toArray, t, U', L, E, ce, hT, X', hL, e1, e2, hq, hce, hcv, vx_cls hW₁ hcl, st⟩
end
/-! ===== END ===== -/
/-! ===== BEGIN .. of methods that hand back an object of the pool ===== -/
section
variable {p : Program} {l : Launch} {e : Env} {R : Room} {s : State} {m : MethodId} {args : Array Value} {below : List Frame} {meth : Method} {c : Code} {H : Heap} {locs : List Loc} {cells slots : Nat} {Q : State → Prop}
variable {mc ms : Nat} {free : Addr → Prop} {A0 A1 : Nat → Prop} {H0 : Heap} {a : Array Value} {pc : Nat} {ls : Array Slot} {st0 rest : List Value}
theorem vx_callq {S SX : Type} {post : Option Nat → S → Prop} {px : SX → Prop} {B : S → State → Prop} {BX : String → SX → State → Prop} {AX : Nat → Prop} (hr : vx_Run p l e R s m args below meth c H locs cells slots mc ms (F0 m pc ls st0) rest (va_Qq post B A1 a) (vx_X px BX AX) free) (hS : va_S A0 H0 H locs) (hA : ∀ q, q < H.size → A1 q → A0 q) (hf : ∀ q, free q → A0 q) (hAX : ∀ q, q < H.size → AX q → A0 q)
    (kx : ∀ (E : String) (ce : Cell) (q9 : Addr) (u : SX) (t : State) (H1 : Heap) (locs1 : List Loc), t.heap = H1 → s.vm.Alike t.vm → px u → BX E u t → H.size ≤ H1.size → (∀ q : Nat, q < H.size → ¬ AX q → H1[q]? = H[q]?) → va_S A0 H0 H1 locs1 → H1[q9]? = some ce → ce.vm = .none → s.vm.findClass E = some ce.cls → vx_W p l e R s m args below meth c H1 locs1 (cells + mc) (slots + ms) Q (F0 m pc ls rest) q9)
    (kk : ∀ (r : Option Nat) (u : S) (t : State) (H1 : Heap) (locs1 : List Loc), t.heap = H1 → s.vm.Alike t.vm → post r u → B u t → H.size ≤ H1.size → (∀ q : Nat, q < H.size → ¬ A1 q → H1[q]? = H[q]?) → va_S A0 H0 H1 locs1 → W p l e R s m args below meth c H1 locs1 (cells + mc) (slots + ms) Q (F0 m (pc + 3) ls (va_rf r :: rest))) : W p l e R s m args below meth c H locs cells slots Q (F0 m pc ls st0) := by
  intro T hT X
  rcases hr T hT X with ⟨v, st₀, t, T', L, h0, X', hL, e1, e2, ⟨⟨r, u, hv, hp, hb⟩, hF⟩, st⟩ | ⟨q, st₀, t, T', L, E, ce, h0, X', hL, e1, e2, ⟨u, hp, hb, hF⟩, hce, hcv, hcl, st⟩
  · cases hv
    obtain ⟨k1, k2, k3⟩ := vx_keep h0 e1 hS hA hf hL hF
    obtain ⟨t2, a1, b1⟩ := kk r u t T'.heap (locs ++ L) e1.symm (by rw [← e2]; exact X'.warmed.alike) hp hb k1 k2 k3 T' rfl X'
    exact ⟨t2, st t2 a1, b1⟩
  · obtain ⟨k1, k2, k3⟩ := vx_keep h0 e1 hS hAX hf hL hF
    obtain ⟨t2, a1, b1⟩ := kx E ce q u t T'.heap (locs ++ L) e1.symm (by rw [← e2]; exact X'.warmed.alike) hp hb k1 k2 k3 (by rw [e1]; exact hce) hcv hcl T' rfl X'
    exact ⟨t2, st.trans a1, b1⟩
end
/-! ===== END ===== -/
/-! ===== BEGIN .. a constant ===== -/
section
variable {p : Program} {l : Launch} {e : Env} {R : Room} {s : State} {m : MethodId} {args : Array Value} {below : List Frame} {meth : Method} {c : Code} {H : Heap} {locs : List Loc} {cells slots : Nat} {Q : State → Prop}
variable {mc ms : Nat} {free : Addr → Prop} {A0 A1 : Nat → Prop} {H0 : Heap} {a : Array Value} {pc : Nat} {ls : Array Slot} {st0 rest : List Value}
theorem vx_calle {ad : Nat → Nat} {S SX : Type} {post : Option Nat → S → Prop} {px : SX → Prop} {B : S → State → Prop} {BX : String → SX → State → Prop} {AX : Nat → Prop} (hr : vx_Run p l e R s m args below meth c H locs cells slots mc ms (F0 m pc ls st0) rest (va_Qe ad post B A1 a) (vx_X px BX AX) free) (hS : va_S A0 H0 H locs) (hA : ∀ q, q < H.size → A1 q → A0 q) (hf : ∀ q, free q → A0 q) (hAX : ∀ q, q < H.size → AX q → A0 q)
    (kx : ∀ (E : String) (ce : Cell) (q9 : Addr) (u : SX) (t : State) (H1 : Heap) (locs1 : List Loc), t.heap = H1 → s.vm.Alike t.vm → px u → BX E u t → H.size ≤ H1.size → (∀ q : Nat, q < H.size → ¬ AX q → H1[q]? = H[q]?) → va_S A0 H0 H1 locs1 → H1[q9]? = some ce → ce.vm = .none → s.vm.findClass E = some ce.cls → vx_W p l e R s m args below meth c H1 locs1 (cells + mc) (slots + ms) Q (F0 m pc ls rest) q9)
    (kk : ∀ (r : Option Nat) (u : S) (t : State) (H1 : Heap) (locs1 : List Loc), t.heap = H1 → s.vm.Alike t.vm → post r u → B u t → H.size ≤ H1.size → (∀ q : Nat, q < H.size → ¬ A1 q → H1[q]? = H[q]?) → va_S A0 H0 H1 locs1 → W p l e R s m args below meth c H1 locs1 (cells + mc) (slots + ms) Q (F0 m (pc + 3) ls (va_re ad r :: rest))) : W p l e R s m args below meth c H locs cells slots Q (F0 m pc ls st0) := by
  intro T hT X
  rcases hr T hT X with ⟨v, st₀, t, T', L, h0, X', hL, e1, e2, ⟨⟨r, u, hv, hp, hb⟩, hF⟩, st⟩ | ⟨q, st₀, t, T', L, E, ce, h0, X', hL, e1, e2, ⟨u, hp, hb, hF⟩, hce, hcv, hcl, st⟩
  · cases hv
    obtain ⟨k1, k2, k3⟩ := vx_keep h0 e1 hS hA hf hL hF
    obtain ⟨t2, a1, b1⟩ := kk r u t T'.heap (locs ++ L) e1.symm (by rw [← e2]; exact X'.warmed.alike) hp hb k1 k2 k3 T' rfl X'
    exact ⟨t2, st t2 a1, b1⟩
  · obtain ⟨k1, k2, k3⟩ := vx_keep h0 e1 hS hAX hf hL hF
    obtain ⟨t2, a1, b1⟩ := kx E ce q u t T'.heap (locs ++ L) e1.symm (by rw [← e2]; exact X'.warmed.alike) hp hb k1 k2 k3 (by rw [e1]; exact hce) hcv hcl T' rfl X'
    exact ⟨t2, st.trans a1, b1⟩
end
/-! ===== END ===== -/
/-! ===== BEGIN .. by an interface, an object ===== -/
section
variable {p : Program} {l : Launch} {e : Env} {R : Room} {s : State} {m : MethodId} {args : Array Value} {below : List Frame} {meth : Method} {c : Code} {H : Heap} {locs : List Loc} {cells slots : Nat} {Q : State → Prop}
variable {mc ms : Nat} {free : Addr → Prop} {A0 A1 : Nat → Prop} {H0 : Heap} {a : Array Value} {pc : Nat} {ls : Array Slot} {st0 rest : List Value}
theorem vx_callFq {S SX : Type} {post : Option Nat → S → Prop} {px : SX → Prop} {B : S → State → Prop} {BX : String → SX → State → Prop} {AX : Nat → Prop} (hr : vx_Run5 p l e R s m args below meth c H locs cells slots mc ms (F0 m pc ls st0) rest (va_Qq post B A1 a) (vx_X px BX AX) free) (hS : va_S A0 H0 H locs) (hA : ∀ q, q < H.size → A1 q → A0 q) (hf : ∀ q, free q → A0 q) (hAX : ∀ q, q < H.size → AX q → A0 q)
    (kx : ∀ (E : String) (ce : Cell) (q9 : Addr) (u : SX) (t : State) (H1 : Heap) (locs1 : List Loc), t.heap = H1 → s.vm.Alike t.vm → px u → BX E u t → H.size ≤ H1.size → (∀ q : Nat, q < H.size → ¬ AX q → H1[q]? = H[q]?) → va_S A0 H0 H1 locs1 → H1[q9]? = some ce → ce.vm = .none → s.vm.findClass E = some ce.cls → vx_W p l e R s m args below meth c H1 locs1 (cells + mc) (slots + ms) Q (F0 m pc ls rest) q9)
    (kk : ∀ (r : Option Nat) (u : S) (t : State) (H1 : Heap) (locs1 : List Loc), t.heap = H1 → s.vm.Alike t.vm → post r u → B u t → H.size ≤ H1.size → (∀ q : Nat, q < H.size → ¬ A1 q → H1[q]? = H[q]?) → va_S A0 H0 H1 locs1 → W p l e R s m args below meth c H1 locs1 (cells + mc) (slots + ms) Q (F0 m (pc + 5) ls (va_rf r :: rest))) : W p l e R s m args below meth c H locs cells slots Q (F0 m pc ls st0) := by
  intro T hT X
  rcases hr T hT X with ⟨v, st₀, t, T', L, h0, X', hL, e1, e2, ⟨⟨r, u, hv, hp, hb⟩, hF⟩, st⟩ | ⟨q, st₀, t, T', L, E, ce, h0, X', hL, e1, e2, ⟨u, hp, hb, hF⟩, hce, hcv, hcl, st⟩
  · cases hv
    obtain ⟨k1, k2, k3⟩ := vx_keep h0 e1 hS hA hf hL hF
    obtain ⟨t2, a1, b1⟩ := kk r u t T'.heap (locs ++ L) e1.symm (by rw [← e2]; exact X'.warmed.alike) hp hb k1 k2 k3 T' rfl X'
    exact ⟨t2, st t2 a1, b1⟩
  · obtain ⟨k1, k2, k3⟩ := vx_keep h0 e1 hS hAX hf hL hF
    obtain ⟨t2, a1, b1⟩ := kx E ce q u t T'.heap (locs ++ L) e1.symm (by rw [← e2]; exact X'.warmed.alike) hp hb k1 k2 k3 (by rw [e1]; exact hce) hcv hcl T' rfl X'
    exact ⟨t2, st.trans a1, b1⟩
end
/-! ===== END ===== -/
/-! ===== BEGIN .. by an interface, a constant ===== -/
section
variable {p : Program} {l : Launch} {e : Env} {R : Room} {s : State} {m : MethodId} {args : Array Value} {below : List Frame} {meth : Method} {c : Code} {H : Heap} {locs : List Loc} {cells slots : Nat} {Q : State → Prop}
variable {mc ms : Nat} {free : Addr → Prop} {A0 A1 : Nat → Prop} {H0 : Heap} {a : Array Value} {pc : Nat} {ls : Array Slot} {st0 rest : List Value}
theorem vx_callFe {ad : Nat → Nat} {S SX : Type} {post : Option Nat → S → Prop} {px : SX → Prop} {B : S → State → Prop} {BX : String → SX → State → Prop} {AX : Nat → Prop} (hr : vx_Run5 p l e R s m args below meth c H locs cells slots mc ms (F0 m pc ls st0) rest (va_Qe ad post B A1 a) (vx_X px BX AX) free) (hS : va_S A0 H0 H locs) (hA : ∀ q, q < H.size → A1 q → A0 q) (hf : ∀ q, free q → A0 q) (hAX : ∀ q, q < H.size → AX q → A0 q)
    (kx : ∀ (E : String) (ce : Cell) (q9 : Addr) (u : SX) (t : State) (H1 : Heap) (locs1 : List Loc), t.heap = H1 → s.vm.Alike t.vm → px u → BX E u t → H.size ≤ H1.size → (∀ q : Nat, q < H.size → ¬ AX q → H1[q]? = H[q]?) → va_S A0 H0 H1 locs1 → H1[q9]? = some ce → ce.vm = .none → s.vm.findClass E = some ce.cls → vx_W p l e R s m args below meth c H1 locs1 (cells + mc) (slots + ms) Q (F0 m pc ls rest) q9)
    (kk : ∀ (r : Option Nat) (u : S) (t : State) (H1 : Heap) (locs1 : List Loc), t.heap = H1 → s.vm.Alike t.vm → post r u → B u t → H.size ≤ H1.size → (∀ q : Nat, q < H.size → ¬ A1 q → H1[q]? = H[q]?) → va_S A0 H0 H1 locs1 → W p l e R s m args below meth c H1 locs1 (cells + mc) (slots + ms) Q (F0 m (pc + 5) ls (va_re ad r :: rest))) : W p l e R s m args below meth c H locs cells slots Q (F0 m pc ls st0) := by
  intro T hT X
  rcases hr T hT X with ⟨v, st₀, t, T', L, h0, X', hL, e1, e2, ⟨⟨r, u, hv, hp, hb⟩, hF⟩, st⟩ | ⟨q, st₀, t, T', L, E, ce, h0, X', hL, e1, e2, ⟨u, hp, hb, hF⟩, hce, hcv, hcl, st⟩
  · cases hv
    obtain ⟨k1, k2, k3⟩ := vx_keep h0 e1 hS hA hf hL hF
    obtain ⟨t2, a1, b1⟩ := kk r u t T'.heap (locs ++ L) e1.symm (by rw [← e2]; exact X'.warmed.alike) hp hb k1 k2 k3 T' rfl X'
    exact ⟨t2, st t2 a1, b1⟩
  · obtain ⟨k1, k2, k3⟩ := vx_keep h0 e1 hS hAX hf hL hF
    obtain ⟨t2, a1, b1⟩ := kx E ce q u t T'.heap (locs ++ L) e1.symm (by rw [← e2]; exact X'.warmed.alike) hp hb k1 k2 k3 (by rw [e1]; exact hce) hcv hcl T' rfl X'
    exact ⟨t2, st.trans a1, b1⟩
end
/-! ===== END ===== -/
/-! ===== BEGIN what the machine throws by itself: null at a field, at athrow ===== -/
section VXM2
variable {p : Program} {l : Launch} {e : Env} {R : Room} {s : State} {m : MethodId} {args : Array Value} {below : List Frame} {meth : Method} {c : Code} {H : Heap} {locs : List Loc} {cells slots : Nat}
variable {Q : State → Prop} {cc : ByteArray} {pc : Nat} {ls : Array Slot} {rest : List Value}
theorem vx_getfN {D cl tys} {own ref C : String} {T : u_T} {N ci index : Nat} {Ts : List Cond} (hexec : p.tables.exec = Jvm.exec) (hb : c.code = cc) (hts : ∀ w ∈ Ts, w.before args s = true) (hin : ∀ w ∈ u_ws C T N, w ∈ Ts) (hown : s.vm.findClass own = some m.cls) (hK : va_K D cl tys s) (hc : cl[ci]? = some (C, T, N)) (k : Nat) (hk : k < N) (hlink : (Cond.fieldLink own index ref (T k).2.1 (T k).2.2.1).before args s = true) (hsame : ∀ x, s.fieldFound? (T k).1 (T k).2.1 (T k).2.2.1 = some x → s.fieldFound? ref (T k).2.1 (T k).2.2.1 = some x) (hdg : decode cc pc = .ok (.getfield index, 3)) (kk : vx_NoteN p l e R s m args below meth c H locs cells slots Q (F0 m pc ls rest)) : W p l e R s m args below meth c H locs cells slots Q (F0 m pc ls (.null :: rest)) := by
  obtain ⟨hS, hfc, kC, hkC, -⟩ := hK.1 ci _ hc
  obtain ⟨cf, kf, fi, f, hi, -⟩ := hS k hk
  intro U hU X
  obtain ⟨vm', X1, st1⟩ := X.getfieldNull hexec hown hlink (hsame _ hi) (u_facts hfc hkC (u_lays hts hin hk) hi).1 (g := F0 m pc ls (.null :: rest)) rfl (rest := rest) rfl (by rw [hb]; exact hdg)
  obtain ⟨t, st, q⟩ := kk (U.setVm vm') hU X1
  exact ⟨t, st1 t st, q⟩
theorem vx_getfNN {D cl tys} {own ref C host : String} {T : u_T} {N ci index : Nat} {Ts : List Cond} (hexec : p.tables.exec = Jvm.exec) (hb : c.code = cc) (hts : ∀ w ∈ Ts, w.before args s = true) (hin : ∀ w ∈ u_ws C T N, w ∈ Ts) (hown : s.vm.findClass own = some m.cls) (hK : va_K D cl tys s) (hc : cl[ci]? = some (C, T, N)) (k : Nat) (hk : k < N) (hlink : (Cond.fieldLinkNest own index ref (T k).2.1 (T k).2.2.1 host).before args s = true) (hsame : ∀ x, s.fieldFound? (T k).1 (T k).2.1 (T k).2.2.1 = some x → s.fieldFound? ref (T k).2.1 (T k).2.2.1 = some x) (hdg : decode cc pc = .ok (.getfield index, 3)) (kk : vx_NoteN p l e R s m args below meth c H locs cells slots Q (F0 m pc ls rest)) : W p l e R s m args below meth c H locs cells slots Q (F0 m pc ls (.null :: rest)) := by
  obtain ⟨hS, hfc, kC, hkC, -⟩ := hK.1 ci _ hc
  obtain ⟨cf, kf, fi, f, hi, -⟩ := hS k hk
  intro U hU X
  obtain ⟨vm', X1, st1⟩ := X.getfieldNullNest hexec hown hlink (hsame _ hi) (u_facts hfc hkC (u_lays hts hin hk) hi).1 (g := F0 m pc ls (.null :: rest)) rfl (rest := rest) rfl (by rw [hb]; exact hdg)
  obtain ⟨t, st, q⟩ := kk (U.setVm vm') hU X1
  exact ⟨t, st1 t st, q⟩
theorem vx_putfN {D cl tys} {own ref C : String} {T : u_T} {N ci index : Nat} {Ts : List Cond} (hexec : p.tables.exec = Jvm.exec) (hb : c.code = cc) (hts : ∀ w ∈ Ts, w.before args s = true) (hin : ∀ w ∈ u_ws C T N, w ∈ Ts) (hown : s.vm.findClass own = some m.cls) (hK : va_K D cl tys s) (hc : cl[ci]? = some (C, T, N)) (k : Nat) (hk : k < N) (hlink : (Cond.fieldLink own index ref (T k).2.1 (T k).2.2.1).before args s = true) (hsame : ∀ x, s.fieldFound? (T k).1 (T k).2.1 (T k).2.2.1 = some x → s.fieldFound? ref (T k).2.1 (T k).2.2.1 = some x) (hfin : (T k).2.2.2 = false) {v : Value} (hdg : decode cc pc = .ok (.putfield index, 3)) (kk : vx_NoteN p l e R s m args below meth c H locs cells slots Q (F0 m pc ls rest)) : W p l e R s m args below meth c H locs cells slots Q (F0 m pc ls (v :: .null :: rest)) := by
  obtain ⟨hS, hfc, kC, hkC, -⟩ := hK.1 ci _ hc
  obtain ⟨cf, kf, fi, f, hi, -⟩ := hS k hk
  have hlay := hts _ (hin _ (u_in_lay hk))
  unfold u_lay at hlay
  rw [if_neg (by rw [hfin]; decide)] at hlay
  obtain ⟨c9, k9, cf9, kf9, fi9, f9, -, -, hi9, hst9, hnf9, -⟩ := Cond.lays_spec hlay
  cases hi.symm.trans hi9
  intro U hU X
  obtain ⟨vm', X1, st1⟩ := X.putfieldNull hexec hown hlink (hsame _ hi) hst9 hnf9 (g := F0 m pc ls (v :: .null :: rest)) rfl (v := v) (rest := rest) rfl (by rw [hb]; exact hdg)
  obtain ⟨t, st, q⟩ := kk (U.setVm vm') hU X1
  exact ⟨t, st1 t st, q⟩
theorem vx_putfNN {D cl tys} {own ref C host : String} {T : u_T} {N ci index : Nat} {Ts : List Cond} (hexec : p.tables.exec = Jvm.exec) (hb : c.code = cc) (hts : ∀ w ∈ Ts, w.before args s = true) (hin : ∀ w ∈ u_ws C T N, w ∈ Ts) (hown : s.vm.findClass own = some m.cls) (hK : va_K D cl tys s) (hc : cl[ci]? = some (C, T, N)) (k : Nat) (hk : k < N) (hlink : (Cond.fieldLinkNest own index ref (T k).2.1 (T k).2.2.1 host).before args s = true) (hsame : ∀ x, s.fieldFound? (T k).1 (T k).2.1 (T k).2.2.1 = some x → s.fieldFound? ref (T k).2.1 (T k).2.2.1 = some x) (hfin : (T k).2.2.2 = false) {v : Value} (hdg : decode cc pc = .ok (.putfield index, 3)) (kk : vx_NoteN p l e R s m args below meth c H locs cells slots Q (F0 m pc ls rest)) : W p l e R s m args below meth c H locs cells slots Q (F0 m pc ls (v :: .null :: rest)) := by
  obtain ⟨hS, hfc, kC, hkC, -⟩ := hK.1 ci _ hc
  obtain ⟨cf, kf, fi, f, hi, -⟩ := hS k hk
  have hlay := hts _ (hin _ (u_in_lay hk))
  unfold u_lay at hlay
  rw [if_neg (by rw [hfin]; decide)] at hlay
  obtain ⟨c9, k9, cf9, kf9, fi9, f9, -, -, hi9, hst9, hnf9, -⟩ := Cond.lays_spec hlay
  cases hi.symm.trans hi9
  intro U hU X
  obtain ⟨vm', X1, st1⟩ := X.putfieldNullNest hexec hown hlink (hsame _ hi) hst9 hnf9 (g := F0 m pc ls (v :: .null :: rest)) rfl (v := v) (rest := rest) rfl (by rw [hb]; exact hdg)
  obtain ⟨t, st, q⟩ := kk (U.setVm vm') hU X1
  exact ⟨t, st1 t st, q⟩
theorem vx_athrowN (hexec : p.tables.exec = Jvm.exec) (hb : c.code = cc) (hdg : decode cc pc = .ok (.athrow, 1)) (k : vx_NoteN p l e R s m args below meth c H locs cells slots Q (F0 m pc ls rest)) : W p l e R s m args below meth c H locs cells slots Q (F0 m pc ls (.null :: rest)) := by
  intro T hT X
  obtain ⟨t, st, q⟩ := k T hT X
  exact ⟨t, X.athrowNull hexec (g := F0 m pc ls (.null :: rest)) rfl (rest := rest) rfl (by rw [hb]; exact hdg) t st, q⟩
end VXM2
/-! ===== END ===== -/
end
section
-- written by wip/whole/gen_tabs.py: classes, methods, codes and links of this claim
def cnL : List String := ["MountSpaces$Changer", "MountSpaces$Followers", "MountSpaces$Input", "MountSpaces$Mounts", "MountSpaces$Past", "MountSpaces$PathText", "MountSpaces$Setup", "MountSpaces$Sight", "MountSpaces$Volumes", "MountSpaces$Walker", "MountSpaces", "MountSpacesModel", "MountSpacesLaw"]
def cnm (cx : Nat) : String := cnL.getD cx ""
def jT0 : u_T := fun k => match k with
  | 0 => ("MountSpaces$Changer", "mounts", "LMountSpaces$Mounts;", true)
  | 1 => ("MountSpaces$Changer", "followers", "LMountSpaces$Followers;", true)
  | 2 => ("MountSpaces$Changer", "oldGroups", "[I", true)
  | 3 => ("MountSpaces$Changer", "copyGroups", "[I", true)
  | 4 => ("MountSpaces$Changer", "oldGroupsSize", "I", false)
  | _ => ("MountSpaces$Changer", "copyNumbers", "[I", true)
def jT1 : u_T := fun k => match k with
  | 0 => ("MountSpaces$Followers", "mounts", "LMountSpaces$Mounts;", true)
  | 1 => ("MountSpaces$Followers", "isReached", "[Z", true)
  | 2 => ("MountSpaces$Followers", "reached", "[I", true)
  | 3 => ("MountSpaces$Followers", "reachedSize", "I", false)
  | 4 => ("MountSpaces$Followers", "number", "[I", true)
  | 5 => ("MountSpaces$Followers", "group", "[I", true)
  | 6 => ("MountSpaces$Followers", "master", "[I", true)
  | _ => ("MountSpaces$Followers", "size", "I", false)
def jT2 : u_T := fun k => match k with
  | 0 => ("MountSpaces$Input", "bytes", "[B", true)
  | 1 => ("MountSpaces$Input", "size", "I", false)
  | 2 => ("MountSpaces$Input", "kind", "I", false)
  | 3 => ("MountSpaces$Input", "start", "I", false)
  | 4 => ("MountSpaces$Input", "position", "I", false)
  | 5 => ("MountSpaces$Input", "textLength", "I", false)
  | 6 => ("MountSpaces$Input", "error", "I", false)
  | _ => ("MountSpaces$Input", "errorAt", "I", false)
def jT3 : u_T := fun k => match k with
  | 0 => ("MountSpaces$Mounts", "volumes", "LMountSpaces$Volumes;", true)
  | 1 => ("MountSpaces$Mounts", "number", "[I", true)
  | 2 => ("MountSpaces$Mounts", "space", "[I", true)
  | 3 => ("MountSpaces$Mounts", "volume", "[I", true)
  | 4 => ("MountSpaces$Mounts", "top", "[I", true)
  | 5 => ("MountSpaces$Mounts", "on", "[I", true)
  | 6 => ("MountSpaces$Mounts", "place", "[I", true)
  | 7 => ("MountSpaces$Mounts", "group", "[I", true)
  | 8 => ("MountSpaces$Mounts", "master", "[I", true)
  | 9 => ("MountSpaces$Mounts", "secret", "[I", true)
  | 10 => ("MountSpaces$Mounts", "locked", "[I", true)
  | 11 => ("MountSpaces$Mounts", "rows", "I", false)
  | 12 => ("MountSpaces$Mounts", "spaces", "I", false)
  | 13 => ("MountSpaces$Mounts", "made", "I", false)
  | _ => ("MountSpaces$Mounts", "lastGroup", "I", false)
def jT4 : u_T := fun k => match k with
  | 0 => ("MountSpaces$Past", "states", "[LMountSpaces$Mounts;", true)
  | 1 => ("MountSpaces$Past", "oldest", "I", false)
  | _ => ("MountSpaces$Past", "size", "I", false)
def jT5 : u_T := fun k => match k with
  | 0 => ("MountSpaces$PathText", "mounts", "LMountSpaces$Mounts;", true)
  | 1 => ("MountSpaces$PathText", "chain", "[I", true)
  | 2 => ("MountSpaces$PathText", "steps", "[I", true)
  | 3 => ("MountSpaces$PathText", "bytes", "[B", true)
  | _ => ("MountSpaces$PathText", "length", "I", false)
def jT6 : u_T := fun k => match k with
  | 0 => ("MountSpaces$Setup", "input", "LMountSpaces$Input;", true)
  | 1 => ("MountSpaces$Setup", "mounts", "LMountSpaces$Mounts;", true)
  | 2 => ("MountSpaces$Setup", "volumes", "LMountSpaces$Volumes;", true)
  | 3 => ("MountSpaces$Setup", "changer", "LMountSpaces$Changer;", true)
  | _ => ("MountSpaces$Setup", "walker", "LMountSpaces$Walker;", true)
def jT7 : u_T := fun k => match k with
  | 0 => ("MountSpaces$Sight", "mounts", "LMountSpaces$Mounts;", true)
  | 1 => ("MountSpaces$Sight", "walker", "LMountSpaces$Walker;", true)
  | 2 => ("MountSpaces$Sight", "rows", "[I", true)
  | 3 => ("MountSpaces$Sight", "directories", "[I", true)
  | _ => ("MountSpaces$Sight", "size", "I", false)
def jT8 : u_T := fun k => match k with
  | 0 => ("MountSpaces$Volumes", "names", "[I", true)
  | 1 => ("MountSpaces$Volumes", "sizes", "[I", true)
  | 2 => ("MountSpaces$Volumes", "directoryNames", "[I", true)
  | 3 => ("MountSpaces$Volumes", "outers", "[I", true)
  | _ => ("MountSpaces$Volumes", "size", "I", false)
def jT9 : u_T := fun k => match k with
  | 0 => ("MountSpaces$Walker", "mounts", "LMountSpaces$Mounts;", true)
  | 1 => ("MountSpaces$Walker", "row", "I", false)
  | _ => ("MountSpaces$Walker", "directory", "I", false)
def jT10 : u_T := fun k => match k with
  | 0 => ("MountSpaces", "input", "LMountSpaces$Input;", true)
  | 1 => ("MountSpaces", "errorAt", "I", false)
  | 2 => ("MountSpaces", "now", "LMountSpaces$Mounts;", true)
  | 3 => ("MountSpaces", "changer", "LMountSpaces$Changer;", true)
  | 4 => ("MountSpaces", "walker", "LMountSpaces$Walker;", true)
  | 5 => ("MountSpaces", "following", "LMountSpaces$Followers;", true)
  | 6 => ("MountSpaces", "sight", "LMountSpaces$Sight;", true)
  | 7 => ("MountSpaces", "pathText", "LMountSpaces$PathText;", true)
  | 8 => ("MountSpaces", "draft", "LMountSpaces$Mounts;", true)
  | 9 => ("MountSpaces", "setup", "LMountSpaces$Setup;", true)
  | _ => ("MountSpaces", "past", "LMountSpaces$Past;", true)
def jT11 : u_T := fun k => match k with
  | 0 => ("MountSpacesModel", "thrown", "I", false)
  | 1 => ("MountSpacesModel", "rows", "[I", true)
  | 2 => ("MountSpacesModel", "now", "I", false)
  | 3 => ("MountSpacesModel", "undoable", "I", false)
  | 4 => ("MountSpacesModel", "follows", "[Z", true)
  | 5 => ("MountSpacesModel", "groupThen", "[I", true)
  | 6 => ("MountSpacesModel", "old", "[I", true)
  | 7 => ("MountSpacesModel", "fresh", "[I", true)
  | 8 => ("MountSpacesModel", "olds", "I", false)
  | 9 => ("MountSpacesModel", "number", "[I", true)
  | 10 => ("MountSpacesModel", "copied", "[I", true)
  | 11 => ("MountSpacesModel", "placeMount", "I", false)
  | 12 => ("MountSpacesModel", "placeDirectory", "I", false)
  | 13 => ("MountSpacesModel", "text", "[I", true)
  | 14 => ("MountSpacesModel", "bytes", "I", false)
  | 15 => ("MountSpacesModel", "errorAt", "I", false)
  | 16 => ("MountSpacesModel", "size", "I", false)
  | 17 => ("MountSpacesModel", "next", "I", false)
  | 18 => ("MountSpacesModel", "error", "I", false)
  | 19 => ("MountSpacesModel", "place", "I", false)
  | 20 => ("MountSpacesModel", "nested", "I", false)
  | 21 => ("MountSpacesModel", "nameAt", "I", false)
  | 22 => ("MountSpacesModel", "nameEnd", "I", false)
  | 23 => ("MountSpacesModel", "isMet", "[Z", true)
  | 24 => ("MountSpacesModel", "written", "[I", true)
  | 25 => ("MountSpacesModel", "chain", "[I", true)
  | 26 => ("MountSpacesModel", "steps", "[I", true)
  | 27 => ("MountSpacesModel", "writtenMany", "I", false)
  | _ => ("MountSpacesModel", "total", "J", false)
def cls9 : List vw_C := [("MountSpaces$Changer", jT0, 6), ("MountSpaces$Followers", jT1, 8), ("MountSpaces$Input", jT2, 8), ("MountSpaces$Mounts", jT3, 15), ("MountSpaces$Past", jT4, 3), ("MountSpaces$PathText", jT5, 5), ("MountSpaces$Setup", jT6, 5), ("MountSpaces$Sight", jT7, 5), ("MountSpaces$Volumes", jT8, 5), ("MountSpaces$Walker", jT9, 3), ("MountSpaces", jT10, 11), ("MountSpacesModel", jT11, 29)]
def tyL : List (List FieldType) := [[.object "MountSpaces$Mounts", .object "MountSpaces$Followers", .array .int, .array .int, .int, .array .int],
  [.object "MountSpaces$Mounts", .array .boolean, .array .int, .int, .array .int, .array .int, .array .int, .int],
  [.array .byte, .int, .int, .int, .int, .int, .int, .int],
  [.object "MountSpaces$Volumes", .array .int, .array .int, .array .int, .array .int, .array .int, .array .int, .array .int, .array .int, .array .int, .array .int, .int, .int, .int, .int],
  [.array (.object "MountSpaces$Mounts"), .int, .int],
  [.object "MountSpaces$Mounts", .array .int, .array .int, .array .byte, .int],
  [.object "MountSpaces$Input", .object "MountSpaces$Mounts", .object "MountSpaces$Volumes", .object "MountSpaces$Changer", .object "MountSpaces$Walker"],
  [.object "MountSpaces$Mounts", .object "MountSpaces$Walker", .array .int, .array .int, .int],
  [.array .int, .array .int, .array .int, .array .int, .int],
  [.object "MountSpaces$Mounts", .int, .int],
  [.object "MountSpaces$Input", .int, .object "MountSpaces$Mounts", .object "MountSpaces$Changer", .object "MountSpaces$Walker", .object "MountSpaces$Followers", .object "MountSpaces$Sight", .object "MountSpaces$PathText", .object "MountSpaces$Mounts", .object "MountSpaces$Setup", .object "MountSpaces$Past"],
  [.int, .array .int, .int, .int, .array .boolean, .array .int, .array .int, .array .int, .int, .array .int, .array .int, .int, .int, .array .int, .int, .int, .int, .int, .int, .int, .int, .int, .int, .array .boolean, .array .int, .array .int, .array .int, .int, .long]]
def tyf (ci k : Nat) : FieldType := (tyL.getD ci []).getD k .int
def ftL : List (List Nat) := [[2, 2, 2, 2, 0, 2], [2, 2, 2, 0, 2, 2, 2, 0], [2, 0, 0, 0, 0, 0, 0, 0], [2, 2, 2, 2, 2, 2, 2, 2, 2, 2, 2, 0, 0, 0, 0], [2, 0, 0], [2, 2, 2, 2, 0], [2, 2, 2, 2, 2], [2, 2, 2, 2, 0], [2, 2, 2, 2, 0], [2, 0, 0], [2, 0, 2, 2, 2, 2, 2, 2, 2, 2, 2], [0, 2, 0, 0, 2, 2, 2, 2, 0, 2, 2, 0, 0, 2, 0, 0, 0, 0, 0, 0, 0, 0, 0, 2, 2, 2, 2, 0, 1]]
def ftc (ci k : Nat) : Nat := (ftL.getD ci []).getD k 0
def fcn (ci : Nat) : Nat := (ftL.getD ci []).length
def KDL : List (Nat ⊕ (Nat × Nat)) := [.inl 3, .inl 8, .inr (0, 4), .inr (0, 4), .inr (0, 48), .inr (0, 48), .inr (0, 40), .inr (0, 40), .inr (0, 40), .inr (0, 40), .inr (0, 40), .inr (0, 40), .inr (0, 40), .inr (0, 40), .inr (0, 40), .inr (0, 40), .inl 99, .inl 99, .inl 99, .inl 99, .inl 10, .inl 2, .inr (1, 600), .inl 99, .inl 99, .inl 99, .inl 99, .inl 99, .inl 99, .inl 99, .inl 1, .inr (2, 40), .inr (0, 40), .inr (0, 40), .inr (0, 40), .inr (0, 40), .inl 99, .inl 99, .inl 99, .inl 99, .inl 0, .inr (0, 40), .inr (0, 40), .inr (0, 40), .inl 99, .inl 9, .inl 99, .inl 99, .inl 99, .inl 99, .inl 7, .inr (0, 480), .inr (0, 480), .inl 99, .inl 99, .inl 5, .inr (0, 40), .inr (0, 12), .inr (1, 3360), .inl 99, .inl 6, .inl 99, .inl 4, .inr (4, 8), .inl 99, .inl 99, .inl 99, .inl 99, .inl 99, .inl 99, .inl 11, .inr (0, 7800), .inr (2, 40), .inr (0, 40), .inr (0, 40), .inr (0, 40), .inr (0, 40), .inr (0, 40), .inr (0, 600), .inr (2, 480), .inr (0, 2000), .inr (0, 42), .inr (0, 12), .inl 99, .inl 99, .inl 99, .inl 99, .inl 99, .inl 99, .inl 99, .inr (3, 1)]
def KD (c : Nat) : Nat ⊕ (Nat × Nat) := KDL.getD c (.inl 99)
def nmL : List (Nat × Nat) := [(0, 20), (0, 21), (0, 22), (0, 0), (0, 1), (0, 2), (0, 3), (0, 4), (0, 5), (0, 6), (0, 7), (0, 8), (0, 9), (0, 10), (0, 11), (0, 12), (0, 13), (0, 14), (0, 15), (0, 40), (0, 41), (0, 42), (0, 43), (0, 30), (0, 31), (0, 32), (0, 33), (0, 34), (0, 35), (0, 45), (2, 30), (2, 31), (2, 32), (2, 33), (2, 34), (2, 35), (0, 50), (0, 51), (0, 52), (2, 45), (0, 55), (0, 56), (0, 57), (0, 58), (1, 0), (1, 1), (1, 2), (1, 3), (1, 4), (1, 5), (1, 6), (1, 7), (1, 8), (1, 9), (1, 10), (1, 11), (1, 12), (1, 13), (1, 14), (1, 15), (0, 60), (1, 40), (1, 41), (1, 42), (1, 43), (1, 30), (1, 31), (1, 32), (1, 33), (1, 34), (1, 35), (1, 45), (0, 62), (0, 63), (2, 0), (2, 1), (2, 2), (2, 3), (2, 4), (2, 5), (2, 6), (2, 7), (2, 8), (2, 9), (2, 10), (2, 11), (2, 12), (2, 13), (2, 14), (2, 15), (3, 0), (3, 1), (3, 2), (3, 3), (3, 4), (3, 5), (3, 6), (3, 7), (3, 8), (3, 9), (3, 10), (3, 11), (3, 12), (3, 13), (3, 14), (3, 15), (4, 0), (4, 1), (4, 2), (4, 3), (4, 4), (4, 5), (4, 6), (4, 7), (4, 8), (4, 9), (4, 10), (4, 11), (4, 12), (4, 13), (4, 14), (4, 15), (5, 0), (5, 1), (5, 2), (5, 3), (5, 4), (5, 5), (5, 6), (5, 7), (5, 8), (5, 9), (5, 10), (5, 11), (5, 12), (5, 13), (5, 14), (5, 15), (6, 0), (6, 1), (6, 2), (6, 3), (6, 4), (6, 5), (6, 6), (6, 7), (6, 8), (6, 9), (6, 10), (6, 11), (6, 12), (6, 13), (6, 14), (6, 15), (7, 0), (7, 1), (7, 2), (7, 3), (7, 4), (7, 5), (7, 6), (7, 7), (7, 8), (7, 9), (7, 10), (7, 11), (7, 12), (7, 13), (7, 14), (7, 15), (8, 0), (8, 1), (8, 2), (8, 3), (8, 4), (8, 5), (8, 6), (8, 7), (8, 8), (8, 9), (8, 10), (8, 11), (8, 12), (8, 13), (8, 14), (8, 15), (9, 0), (9, 1), (9, 2), (9, 3), (9, 4), (9, 5), (9, 6), (9, 7), (9, 8), (9, 9), (9, 10), (9, 11), (9, 12), (9, 13), (9, 14), (9, 15), (0, 70), (0, 71), (0, 72), (0, 73), (0, 74), (0, 75), (0, 76), (0, 77), (0, 78), (0, 79), (0, 80), (0, 81), (0, 82), (0, 90)]
def nmN : Nat := 216
def nm (n : Nat) : Nat × Nat := nmL.getD n (0, 99)
/-- the store that a follower, a changer or a walker of this number works on -/
def fm (i : Nat) : Nat := i % 2
def r0L : List (List (Option (Nat × Nat))) := [[some (0, 1), some (0, 6), some (0, 7), some (0, 8), some (0, 9), some (0, 10), some (0, 11), some (0, 12), some (0, 13), some (0, 14), some (0, 15)], [some (0, 2), some (0, 3), some (0, 4), some (0, 5)], [], [], [], [], [], [], [], [], [], [], [], [], [], [], [], [], [], [], [some (1, 21), none, some (1, 0), some (1, 40), some (1, 45), some (4, 30), some (1, 50), some (1, 55), some (2, 0), some (1, 60), some (1, 62)], [some (0, 22)], [], [], [], [], [], [], [], [], [some (3, 0), some (0, 31), some (0, 32), none, some (0, 33), some (0, 34), some (0, 35)], [], [], [], [], [], [], [], [], [], [some (3, 0), some (0, 30), some (0, 41), some (0, 42), none, some (0, 43)], [], [], [], [], [some (3, 0)], [], [], [], [], [some (1, 0), some (4, 45), some (0, 51), some (0, 52)], [], [], [], [], [some (1, 0), some (0, 56), some (0, 57), some (0, 58)], [], [], [], [], [some (1, 21), some (2, 0), some (2, 1), some (2, 40), some (2, 45)], [], [some (0, 63)], [], [], [], [], [], [], [], [none, some (0, 71), none, none, some (0, 72), some (0, 73), some (0, 74), some (0, 75), none, some (0, 76), some (0, 77), none, none, some (0, 78), none, none, none, none, none, none, none, none, none, some (0, 79), some (0, 80), some (0, 81), some (0, 82)]]
def r0i (t i k : Nat) : Nat := match t with
  | 0 => i
  | 1 => 0
  | 2 => 1
  | 3 => fm i
  | 4 => 2
  | _ => 2 + k
def R0 (i c k : Nat) : Option (Nat × Nat) := if c = 63 then some (2 + k, 0) else match (r0L.getD c []).getD k none with
  | none => none
  | some (t, d) => some (r0i t i k, d)
def fTL : List (List (Nat × Nat × Nat × Nat × Nat)) := [[(9, 0, 2, 2, 336), (15, 0, 3, 2, 337), (18, 0, 4, 0, 338), (22, 0, 5, 2, 339), (25, 0, 0, 2, 334), (34, 0, 1, 2, 335), (48, 3, 11, 0, 253), (51, 3, 2, 2, 225), (61, 3, 9, 2, 248), (64, 3, 3, 2, 229), (67, 3, 7, 2, 243), (70, 3, 8, 2, 246), (76, 3, 10, 2, 250), (95, 1, 7, 0, 314), (98, 1, 4, 2, 308), (107, 3, 5, 2, 237), (110, 3, 1, 2, 222), (111, 3, 6, 2, 240), (122, 1, 5, 2, 310), (130, 3, 4, 2, 235), (136, 1, 6, 2, 312), (147, 3, 12, 0, 257)],
  [(9, 1, 1, 2, 304), (15, 1, 2, 2, 305), (19, 1, 3, 0, 306), (23, 1, 4, 2, 307), (26, 1, 5, 2, 309), (29, 1, 6, 2, 311), (32, 1, 7, 0, 313), (35, 1, 0, 2, 303), (39, 3, 7, 2, 242), (42, 3, 11, 0, 252), (52, 3, 8, 2, 245), (53, 3, 1, 2, 221)],
  [(9, 2, 0, 2, 151), (15, 2, 1, 0, 152), (19, 2, 2, 0, 154), (22, 2, 3, 0, 157), (25, 2, 4, 0, 158), (28, 2, 5, 0, 159), (31, 2, 6, 0, 160), (34, 2, 7, 0, 162)],
  [(12, 3, 0, 2, 214), (18, 3, 1, 2, 220), (22, 3, 2, 2, 224), (25, 3, 3, 2, 227), (28, 3, 4, 2, 232), (31, 3, 5, 2, 236), (34, 3, 6, 2, 238), (37, 3, 7, 2, 241), (40, 3, 8, 2, 244), (43, 3, 9, 2, 247), (46, 3, 10, 2, 249), (49, 3, 11, 0, 251), (53, 3, 12, 0, 255), (56, 3, 13, 0, 258), (59, 3, 14, 0, 259), (81, 8, 4, 0, 201)],
  [(11, 4, 0, 2, 460), (17, 4, 1, 0, 461), (21, 4, 2, 0, 462)],
  [(9, 5, 1, 2, 408), (15, 5, 2, 2, 409), (18, 5, 3, 2, 410), (22, 5, 4, 0, 412), (26, 5, 0, 2, 407), (43, 3, 3, 2, 228), (46, 3, 6, 2, 239), (49, 3, 4, 2, 234), (52, 3, 0, 2, 217)],
  [(9, 6, 0, 2, 435), (15, 6, 1, 2, 436), (19, 3, 0, 2, 215), (25, 6, 2, 2, 437), (31, 6, 3, 2, 438), (38, 6, 4, 2, 439), (42, 8, 4, 0, 199), (102, 2, 2, 0, 156), (141, 9, 1, 0, 362), (144, 9, 2, 0, 366)],
  [(9, 7, 2, 2, 387), (15, 7, 3, 2, 388), (18, 7, 4, 0, 389), (22, 7, 0, 2, 385), (31, 7, 1, 2, 386), (46, 9, 1, 0, 361), (49, 9, 2, 0, 365), (52, 3, 3, 2, 230), (57, 3, 0, 2, 218)],
  [(9, 8, 0, 2, 194), (15, 8, 1, 2, 195), (18, 8, 2, 2, 196), (21, 8, 3, 2, 197), (24, 8, 4, 0, 198)],
  [(9, 9, 1, 0, 360), (15, 9, 2, 0, 364), (18, 9, 0, 2, 359), (28, 3, 4, 2, 233), (50, 2, 2, 0, 155), (67, 3, 0, 2, 219), (71, 3, 3, 2, 231)],
  [(12, 10, 0, 2, 487), (16, 10, 1, 0, 488), (23, 10, 2, 2, 489), (32, 10, 3, 2, 490), (39, 10, 4, 2, 491), (46, 10, 5, 2, 492), (53, 10, 6, 2, 493), (60, 10, 7, 2, 494), (64, 10, 8, 2, 495), (72, 10, 9, 2, 496), (79, 10, 10, 2, 497), (83, 3, 0, 2, 216), (103, 2, 1, 0, 153), (119, 2, 7, 0, 163), (120, 2, 6, 0, 161), (129, 3, 11, 0, 254), (160, 8, 4, 0, 200), (187, 3, 1, 2, 223), (207, 9, 1, 0, 363), (210, 9, 2, 0, 367), (213, 3, 12, 0, 256), (221, 3, 2, 2, 226), (230, 1, 7, 0, 315), (238, 5, 4, 0, 413), (243, 5, 3, 2, 411), (278, 4, 2, 0, 463)],
  [(7, 11, 1, 2, 1298), (13, 11, 4, 2, 1301), (17, 11, 5, 2, 1302), (20, 11, 6, 2, 1303), (23, 11, 7, 2, 1304), (26, 11, 9, 2, 1306), (29, 11, 10, 2, 1307), (32, 11, 13, 2, 1310), (35, 11, 15, 0, 1312), (39, 11, 23, 2, 1320), (42, 11, 24, 2, 1321), (45, 11, 25, 2, 1322), (48, 11, 26, 2, 1323), (62, 11, 0, 0, 1297), (65, 11, 2, 0, 1299), (71, 11, 3, 0, 1300), (129, 11, 8, 0, 1305), (187, 11, 11, 0, 1308), (190, 11, 12, 0, 1309), (196, 11, 14, 0, 1311), (199, 11, 18, 0, 1315), (202, 11, 19, 0, 1316), (205, 11, 17, 0, 1314), (208, 11, 16, 0, 1313), (229, 11, 21, 0, 1318), (232, 11, 22, 0, 1319), (251, 11, 20, 0, 1317), (353, 11, 27, 0, 1324), (376, 11, 28, 1, 1325)],
  []]
def cTL : List (List (Nat × Nat × Nat × Nat × Nat × Nat)) := [[(29, 0, 1, 297, 298, 117)],
  [],
  [],
  [(9, 0, 8, 188, 189, 115)],
  [(9, 0, 3, 457, 183, 114)],
  [],
  [(26, 0, 0, 431, 292, 116), (35, 0, 9, 433, 354, 118)],
  [(26, 0, 9, 383, 354, 118)],
  [],
  [],
  [(9, 0, 2, 145, 146, 113), (20, 0, 3, 182, 183, 114), (27, 0, 0, 291, 292, 116), (36, 0, 9, 353, 354, 118), (43, 0, 1, 375, 298, 117), (50, 0, 7, 377, 378, 119), (57, 0, 5, 401, 402, 120), (67, 0, 6, 425, 426, 121), (76, 0, 4, 451, 452, 122), (132, 1, 0, 645, 0, 127), (151, 1, 2, 979, 0, 134), (174, 1, 3, 1016, 0, 135), (269, 1, 1, 1238, 0, 136)],
  [],
  [(8, 0, 10, 137, 138, 112), (13, 1, 0, 636, 0, 127), (21, 1, 2, 970, 0, 134), (30, 1, 3, 1006, 0, 135), (85, 1, 1, 1233, 0, 136), (88, 0, 11, 1258, 1259, 123)]]
def mTL : List (List (Nat × Nat × Nat × Nat)) := [[(3, 500, 0, 296), (31, 18, 0, 299), (38, 42, 0, 875), (44, 6, 0, 876), (54, 37, 0, 891), (57, 7, 0, 892), (73, 4, 0, 1170), (79, 43, 0, 1174), (83, 44, 0, 1175), (87, 5, 0, 1179), (91, 19, 0, 880), (101, 41, 0, 881), (104, 46, 0, 885), (114, 40, 0, 896), (118, 8, 0, 900), (123, 10, 0, 908), (127, 22, 0, 904), (133, 9, 0, 912), (137, 38, 0, 1194), (140, 12, 0, 1202), (144, 14, 0, 946), (150, 16, 0, 1226)],
  [(3, 500, 0, 302), (45, 20, 0, 594), (49, 21, 0, 598)],
  [(3, 500, 0, 150), (37, 504, 0, 717), (43, 503, 0, 720), (46, 27, 0, 723), (49, 28, 0, 727), (53, 29, 0, 792), (57, 33, 0, 740), (61, 501, 0, 744), (67, 502, 0, 754)],
  [(3, 500, 0, 187), (11, 78, 1, 190), (62, 37, 0, 483), (66, 39, 0, 1198), (70, 41, 0, 1117), (74, 82, 0, 889), (77, 83, 0, 890), (84, 48, 0, 566), (88, 87, 0, 549), (92, 505, 0, 556)],
  [(3, 500, 0, 456), (24, 35, 1, 459), (25, 50, 0, 545)],
  [(3, 500, 0, 406), (30, 43, 0, 1113), (36, 56, 0, 1118), (40, 58, 0, 1127), (56, 84, 0, 1122), (62, 83, 0, 1126), (65, 57, 0, 1131)],
  [(3, 500, 0, 430), (28, 0, 0, 432), (37, 88, 0, 434), (50, 32, 0, 736), (56, 31, 0, 796), (60, 61, 0, 800), (64, 65, 0, 839), (69, 33, 0, 805), (74, 29, 0, 807), (77, 79, 0, 808), (80, 27, 0, 812), (83, 62, 0, 813), (86, 34, 0, 817), (90, 85, 0, 821), (94, 80, 0, 825), (98, 63, 0, 826), (105, 64, 0, 830), (108, 86, 0, 834), (112, 81, 0, 838), (115, 66, 0, 843), (118, 36, 0, 847), (123, 68, 0, 853), (128, 69, 0, 921), (131, 71, 0, 929), (134, 30, 0, 950), (137, 91, 0, 857), (147, 1, 0, 871), (150, 70, 0, 916), (153, 2, 0, 925), (159, 72, 0, 934), (162, 13, 0, 942)],
  [(3, 500, 0, 382), (28, 88, 0, 384), (35, 90, 0, 606), (39, 75, 0, 622), (42, 76, 0, 626), (61, 82, 0, 630), (67, 83, 0, 631), (71, 89, 0, 632)],
  [(3, 500, 0, 193), (28, 81, 0, 475), (32, 505, 0, 553)],
  [(3, 500, 0, 358), (22, 42, 0, 618), (32, 45, 0, 610), (36, 89, 0, 614), (40, 31, 0, 861), (46, 90, 0, 862), (53, 92, 0, 863), (57, 27, 0, 870), (60, 29, 0, 868), (63, 34, 0, 867), (74, 86, 0, 869)],
  [(3, 500, 0, 142), (11, 23, 1, 147), (22, 35, 1, 184), (29, 0, 0, 293), (38, 88, 0, 355), (45, 18, 0, 376), (52, 73, 0, 379), (59, 54, 0, 403), (69, 59, 0, 427), (78, 51, 0, 453), (87, 80, 0, 471), (93, 36, 0, 479), (96, 24, 0, 525), (100, 25, 0, 529), (106, 96, 0, 641), (109, 26, 0, 713), (112, 60, 0, 731), (116, 67, 0, 848), (123, 52, 0, 954), (126, 50, 0, 958), (136, 600, 0, 688), (141, 47, 0, 562), (145, 101, 0, 975), (148, 82, 0, 574), (155, 602, 0, 989), (156, 83, 0, 578), (163, 103, 0, 1011), (168, 49, 0, 586), (171, 41, 0, 1015), (178, 603, 0, 1026), (179, 46, 0, 1052), (191, 104, 0, 1048), (194, 42, 0, 1054), (197, 108, 0, 1062), (200, 91, 0, 1067), (204, 30, 0, 1068), (218, 74, 0, 602), (224, 77, 0, 1083), (227, 19, 0, 590), (231, 6, 0, 1101), (235, 55, 0, 1109), (247, 1, 0, 1150), (250, 2, 0, 1158), (254, 3, 0, 1166), (257, 11, 0, 1190), (262, 13, 0, 1214), (265, 15, 0, 1222), (273, 601, 0, 1248), (274, 17, 0, 1254), (279, 53, 0, 541), (284, 124, 0, 570), (288, 125, 0, 582)],
  [(1, 500, 0, 1263), (51, 130, 0, 1264), (55, 141, 0, 1268), (59, 142, 0, 1278), (68, 132, 0, 1587), (74, 137, 0, 1290), (78, 129, 0, 1286), (82, 135, 0, 1272), (85, 136, 0, 1275), (89, 143, 0, 1282), (92, 131, 0, 1293), (95, 138, 0, 1489), (98, 140, 0, 1467), (101, 139, 0, 1463), (104, 128, 0, 1397), (108, 145, 0, 1533), (112, 144, 0, 1628), (115, 151, 0, 1517), (119, 146, 0, 1529), (123, 147, 0, 1497), (126, 153, 0, 1525), (132, 156, 0, 1553), (135, 155, 0, 1545), (139, 158, 0, 1561), (142, 157, 0, 1549), (145, 159, 0, 1557), (149, 152, 0, 1513), (152, 154, 0, 1521), (155, 161, 0, 1537), (159, 160, 0, 1541), (162, 148, 0, 1712), (165, 149, 0, 1716), (168, 164, 0, 1708), (171, 150, 0, 1728), (174, 166, 0, 1732), (177, 168, 0, 1579), (180, 170, 0, 1749), (183, 171, 0, 1753), (193, 173, 0, 1493), (211, 177, 0, 1413), (214, 178, 0, 1417), (217, 501, 0, 1420), (222, 502, 0, 1421), (226, 176, 0, 1422), (235, 182, 0, 1443), (238, 181, 0, 1435), (242, 185, 0, 1459), (245, 183, 0, 1447), (248, 187, 0, 1451), (254, 186, 0, 1455), (257, 180, 0, 1426), (262, 179, 0, 1409), (266, 184, 0, 1439), (269, 174, 0, 1485), (272, 190, 0, 1501), (277, 189, 0, 1472), (280, 191, 0, 1481), (283, 193, 0, 1505), (286, 162, 0, 1509), (291, 163, 0, 1566), (305, 169, 0, 1575), (310, 188, 0, 1430), (314, 192, 0, 1476), (317, 134, 0, 1400), (321, 194, 0, 1404), (324, 133, 0, 1583), (327, 197, 0, 1604), (332, 198, 0, 1600), (335, 200, 0, 1612), (338, 203, 0, 1624), (341, 204, 0, 1640), (344, 209, 0, 1656), (347, 210, 0, 1660), (350, 211, 0, 1652), (356, 216, 0, 1684), (359, 217, 0, 1680), (362, 165, 0, 1704), (365, 167, 0, 1724), (370, 172, 0, 1745), (380, 228, 0, 1769)],
  [(7, 95, 0, 637), (15, 98, 0, 962), (18, 99, 0, 971), (23, 100, 0, 998), (27, 102, 0, 1007), (32, 105, 0, 1036), (35, 106, 0, 1044), (38, 107, 0, 1058), (41, 109, 0, 1072), (44, 110, 0, 1079), (48, 111, 0, 1090), (51, 112, 0, 1097), (54, 113, 0, 1105), (57, 114, 0, 1138), (60, 115, 0, 1146), (64, 116, 0, 1154), (68, 117, 0, 1162), (71, 118, 0, 1186), (74, 119, 0, 1209), (77, 120, 0, 1218), (81, 121, 0, 1234), (87, 93, 0, 139), (90, 126, 0, 1260), (91, 94, 0, 521), (95, 175, 0, 1389), (96, 230, 0, 633), (101, 195, 0, 1393), (102, 127, 0, 1385), (105, 97, 0, 533), (108, 196, 0, 1591), (109, 231, 0, 959), (111, 199, 0, 1595), (112, 232, 0, 967), (114, 201, 0, 1608), (115, 233, 0, 995), (118, 202, 0, 1616), (119, 234, 0, 1003), (121, 205, 0, 1620), (122, 235, 0, 1033), (124, 206, 0, 1632), (125, 236, 0, 1041), (127, 207, 0, 1636), (128, 237, 0, 1055), (130, 208, 0, 1644), (131, 238, 0, 1069), (133, 212, 0, 1648), (134, 239, 0, 1076), (136, 213, 0, 1664), (137, 240, 0, 1087), (139, 214, 0, 1668), (140, 241, 0, 1094), (142, 215, 0, 1672), (143, 242, 0, 1102), (145, 218, 0, 1676), (146, 243, 0, 1135), (148, 219, 0, 1688), (149, 244, 0, 1143), (152, 220, 0, 1692), (153, 245, 0, 1151), (156, 221, 0, 1696), (157, 246, 0, 1159), (159, 222, 0, 1700), (160, 247, 0, 1183), (162, 223, 0, 1720), (163, 248, 0, 1206), (165, 224, 0, 1736), (166, 249, 0, 1215), (169, 225, 0, 1741), (170, 250, 0, 1230), (173, 226, 0, 1757), (174, 122, 0, 537), (177, 227, 0, 1761), (178, 123, 0, 557), (182, 229, 0, 1765)]]
def lTL : List (List (Nat × Int64 × Nat)) := [[],
  [],
  [],
  [],
  [],
  [],
  [],
  [],
  [],
  [],
  [(282, 31, 561)],
  [(330, 8, 1599), (368, 3, 1740), (374, 31, 1773)],
  []]
def sTL : List (List (Nat × Nat)) := [[],
  [],
  [],
  [],
  [],
  [],
  [(48, 0), (67, 1), (72, 2), (121, 3), (126, 4), (157, 5), (166, 6), (168, 7), (170, 8), (172, 9)],
  [],
  [],
  [],
  [],
  [(260, 10), (275, 11), (289, 12), (295, 13), (297, 14), (299, 15), (301, 16), (303, 17), (308, 18), (312, 19)],
  []]
def strN : Nat := 20
def strL : List (String × Nat × String) := [("MountSpaces$Setup", 48, "spaces"), ("MountSpaces$Setup", 67, "root"), ("MountSpaces$Setup", 72, "volume"), ("MountSpaces$Setup", 121, "mount"), ("MountSpaces$Setup", 126, "bind"), ("MountSpaces$Setup", 157, "make"), ("MountSpaces$Setup", 166, "private"), ("MountSpaces$Setup", 168, "shared"), ("MountSpaces$Setup", 170, "slave"), ("MountSpaces$Setup", 172, "secret"), ("MountSpacesModel", 260, "volume"), ("MountSpacesModel", 275, "mount"), ("MountSpacesModel", 289, "bind"), ("MountSpacesModel", 295, "make"), ("MountSpacesModel", 297, "private"), ("MountSpacesModel", 299, "shared"), ("MountSpacesModel", 301, "slave"), ("MountSpacesModel", 303, "secret"), ("MountSpacesModel", 308, "spaces"), ("MountSpacesModel", 312, "root")]
def txtL : List (List Int32) := [[115, 112, 97, 99, 101, 115], [114, 111, 111, 116], [118, 111, 108, 117, 109, 101], [109, 111, 117, 110, 116], [98, 105, 110, 100], [109, 97, 107, 101], [112, 114, 105, 118, 97, 116, 101], [115, 104, 97, 114, 101, 100], [115, 108, 97, 118, 101], [115, 101, 99, 114, 101, 116], [118, 111, 108, 117, 109, 101], [109, 111, 117, 110, 116], [98, 105, 110, 100], [109, 97, 107, 101], [112, 114, 105, 118, 97, 116, 101], [115, 104, 97, 114, 101, 100], [115, 108, 97, 118, 101], [115, 101, 99, 114, 101, 116], [115, 112, 97, 99, 101, 115], [114, 111, 111, 116]]
def EXL : List String := ["java/lang/IllegalArgumentException", "java/lang/IllegalStateException", "java/lang/IndexOutOfBoundsException", "java/util/NoSuchElementException"]
def mNm : List MethodName := [⟨"MountSpaces$Changer", "<init>", "(LMountSpaces$Mounts;)V"⟩,
  ⟨"MountSpaces$Changer", "mountVolume", "(III)I"⟩,
  ⟨"MountSpaces$Changer", "bindPart", "(IIII)I"⟩,
  ⟨"MountSpaces$Changer", "moveMount", "(III)I"⟩,
  ⟨"MountSpaces$Changer", "refusalToMove", "(III)I"⟩,
  ⟨"MountSpaces$Changer", "isOrIsUnder", "(II)Z"⟩,
  ⟨"MountSpaces$Changer", "copiesFor", "(III)I"⟩,
  ⟨"MountSpaces$Changer", "put", "(III)V"⟩,
  ⟨"MountSpaces$Changer", "nameCopyGroups", "(II)V"⟩,
  ⟨"MountSpaces$Changer", "copyGroupOf", "(I)I"⟩,
  ⟨"MountSpaces$Changer", "copyOnto", "(IIIZ)V"⟩,
  ⟨"MountSpaces$Changer", "removeMount", "(I)I"⟩,
  ⟨"MountSpaces$Changer", "removeFrom", "(IIII)I"⟩,
  ⟨"MountSpaces$Changer", "makeKind", "(II)I"⟩,
  ⟨"MountSpaces$Changer", "isInOtherMount", "(II)Z"⟩,
  ⟨"MountSpaces$Changer", "duplicateSpace", "(IZ)I"⟩,
  ⟨"MountSpaces$Changer", "duplicateMount", "(IIZ)V"⟩,
  ⟨"MountSpaces$Changer", "removeLastSpace", "()I"⟩,
  ⟨"MountSpaces$Followers", "<init>", "(LMountSpaces$Mounts;)V"⟩,
  ⟨"MountSpaces$Followers", "gather", "(I)V"⟩,
  ⟨"MountSpaces$Followers", "reachFrom", "(I)V"⟩,
  ⟨"MountSpaces$Followers", "note", "(I)V"⟩,
  ⟨"MountSpaces$Followers", "nextGroup", "(I)I"⟩,
  ⟨"MountSpaces$Input", "<init>", "()V"⟩,
  ⟨"MountSpaces$Input", "hasRoom", "(I)Z"⟩,
  ⟨"MountSpaces$Input", "putWord", "(I)V"⟩,
  ⟨"MountSpaces$Input", "open", "(I)V"⟩,
  ⟨"MountSpaces$Input", "advance", "()V"⟩,
  ⟨"MountSpaces$Input", "isLetter", "(B)Z"⟩,
  ⟨"MountSpaces$Input", "fail", "(I)Z"⟩,
  ⟨"MountSpaces$Input", "takeEnd", "()Z"⟩,
  ⟨"MountSpaces$Input", "takeSign", "(I)Z"⟩,
  ⟨"MountSpaces$Input", "takeWord", "(Ljava/lang/String;)Z"⟩,
  ⟨"MountSpaces$Input", "isWord", "(Ljava/lang/String;)Z"⟩,
  ⟨"MountSpaces$Input", "nameCode", "()I"⟩,
  ⟨"MountSpaces$Mounts", "<init>", "()V"⟩,
  ⟨"MountSpaces$Mounts", "begin", "(I)V"⟩,
  ⟨"MountSpaces$Mounts", "add", "(III)I"⟩,
  ⟨"MountSpaces$Mounts", "remove", "(I)V"⟩,
  ⟨"MountSpaces$Mounts", "copyRow", "(II)V"⟩,
  ⟨"MountSpaces$Mounts", "newGroup", "()I"⟩,
  ⟨"MountSpaces$Mounts", "rowOf", "(I)I"⟩,
  ⟨"MountSpaces$Mounts", "rowOn", "(II)I"⟩,
  ⟨"MountSpaces$Mounts", "rowUnder", "(I)I"⟩,
  ⟨"MountSpaces$Mounts", "hasMountOnIt", "(I)Z"⟩,
  ⟨"MountSpaces$Mounts", "rootRow", "(I)I"⟩,
  ⟨"MountSpaces$Mounts", "holds", "(II)Z"⟩,
  ⟨"MountSpaces$Mounts", "countOf", "(I)I"⟩,
  ⟨"MountSpaces$Mounts", "timesFilled", "([I)I"⟩,
  ⟨"MountSpaces$Mounts", "fact", "(II)I"⟩,
  ⟨"MountSpaces$Mounts", "takeOver", "(LMountSpaces$Mounts;)V"⟩,
  ⟨"MountSpaces$Past", "<init>", "()V"⟩,
  ⟨"MountSpaces$Past", "keep", "(LMountSpaces$Mounts;)V"⟩,
  ⟨"MountSpaces$Past", "restore", "(LMountSpaces$Mounts;)V"⟩,
  ⟨"MountSpaces$PathText", "<init>", "(LMountSpaces$Mounts;)V"⟩,
  ⟨"MountSpaces$PathText", "write", "(I)I"⟩,
  ⟨"MountSpaces$PathText", "writeWayTo", "(I)V"⟩,
  ⟨"MountSpaces$PathText", "writeName", "(I)V"⟩,
  ⟨"MountSpaces$PathText", "writeByte", "(I)V"⟩,
  ⟨"MountSpaces$Setup", "<init>", "(LMountSpaces$Input;LMountSpaces$Mounts;)V"⟩,
  ⟨"MountSpaces$Setup", "readHead", "()Z"⟩,
  ⟨"MountSpaces$Setup", "readVolumes", "()Z"⟩,
  ⟨"MountSpaces$Setup", "readVolume", "()Z"⟩,
  ⟨"MountSpaces$Setup", "readInside", "(III)Z"⟩,
  ⟨"MountSpaces$Setup", "readDirectory", "(III)Z"⟩,
  ⟨"MountSpaces$Setup", "readRoot", "()Z"⟩,
  ⟨"MountSpaces$Setup", "readVolumeName", "()I"⟩,
  ⟨"MountSpaces$Setup", "readStatements", "()Z"⟩,
  ⟨"MountSpaces$Setup", "readMount", "()Z"⟩,
  ⟨"MountSpaces$Setup", "readBind", "()Z"⟩,
  ⟨"MountSpaces$Setup", "takeAnswer", "(I)Z"⟩,
  ⟨"MountSpaces$Setup", "readMake", "()Z"⟩,
  ⟨"MountSpaces$Setup", "kindOfWord", "()I"⟩,
  ⟨"MountSpaces$Sight", "<init>", "(LMountSpaces$Mounts;)V"⟩,
  ⟨"MountSpaces$Sight", "survey", "(I)I"⟩,
  ⟨"MountSpaces$Sight", "note", "()V"⟩,
  ⟨"MountSpaces$Sight", "lookInto", "(II)V"⟩,
  ⟨"MountSpaces$Sight", "shows", "(II)Z"⟩,
  ⟨"MountSpaces$Volumes", "<init>", "()V"⟩,
  ⟨"MountSpaces$Volumes", "isFull", "()Z"⟩,
  ⟨"MountSpaces$Volumes", "add", "(I)V"⟩,
  ⟨"MountSpaces$Volumes", "addDirectory", "(III)I"⟩,
  ⟨"MountSpaces$Volumes", "sizeOf", "(I)I"⟩,
  ⟨"MountSpaces$Volumes", "outerOf", "(II)I"⟩,
  ⟨"MountSpaces$Volumes", "nameOf", "(II)I"⟩,
  ⟨"MountSpaces$Volumes", "volumeNamed", "(I)I"⟩,
  ⟨"MountSpaces$Volumes", "directoryNamed", "(III)I"⟩,
  ⟨"MountSpaces$Volumes", "takeOver", "(LMountSpaces$Volumes;)V"⟩,
  ⟨"MountSpaces$Walker", "<init>", "(LMountSpaces$Mounts;)V"⟩,
  ⟨"MountSpaces$Walker", "arriveAt", "(II)V"⟩,
  ⟨"MountSpaces$Walker", "arriveInSpace", "(I)V"⟩,
  ⟨"MountSpaces$Walker", "follow", "(LMountSpaces$Input;I)Z"⟩,
  ⟨"MountSpaces$Walker", "takeStep", "(LMountSpaces$Input;)Z"⟩,
  ⟨"MountSpaces", "<init>", "()V"⟩,
  ⟨"MountSpaces", "append", "(IIIII)I"⟩,
  ⟨"MountSpaces", "load", "(I)I"⟩,
  ⟨"MountSpaces", "checkLength", "(I)V"⟩,
  ⟨"MountSpaces", "errorOffset", "()I"⟩,
  ⟨"MountSpaces", "count", "(I)I"⟩,
  ⟨"MountSpaces", "directories", "(I)I"⟩,
  ⟨"MountSpaces", "outer", "(II)I"⟩,
  ⟨"MountSpaces", "checkVolume", "(I)V"⟩,
  ⟨"MountSpaces", "told", "(II)I"⟩,
  ⟨"MountSpaces", "rowOfMount", "(I)I"⟩,
  ⟨"MountSpaces", "rowWithPlace", "(II)I"⟩,
  ⟨"MountSpaces", "mountAt", "(I)I"⟩,
  ⟨"MountSpaces", "mountOn", "(II)I"⟩,
  ⟨"MountSpaces", "look", "(II)I"⟩,
  ⟨"MountSpaces", "checkSpace", "(I)V"⟩,
  ⟨"MountSpaces", "seen", "(I)I"⟩,
  ⟨"MountSpaces", "isSeen", "(II)Z"⟩,
  ⟨"MountSpaces", "followers", "(I)I"⟩,
  ⟨"MountSpaces", "wouldMake", "(II)I"⟩,
  ⟨"MountSpaces", "path", "(I)I"⟩,
  ⟨"MountSpaces", "pathByte", "(I)I"⟩,
  ⟨"MountSpaces", "mount", "(III)I"⟩,
  ⟨"MountSpaces", "bind", "(IIII)I"⟩,
  ⟨"MountSpaces", "move", "(III)I"⟩,
  ⟨"MountSpaces", "unmount", "(I)I"⟩,
  ⟨"MountSpaces", "make", "(II)I"⟩,
  ⟨"MountSpaces", "copySpace", "(IZ)I"⟩,
  ⟨"MountSpaces", "dropSpace", "()I"⟩,
  ⟨"MountSpaces", "undo", "()I"⟩,
  ⟨"MountSpaces", "checksum", "()J"⟩,
  ⟨"MountSpaces", "sumOfVolumes", "(J)J"⟩,
  ⟨"MountSpaces", "sumOfMount", "(JI)J"⟩,
  ⟨"MountSpacesModel", "<init>", "()V"⟩,
  ⟨"MountSpacesModel", "thrown", "()I"⟩,
  ⟨"MountSpacesModel", "isIn", "(JJJ)Z"⟩,
  ⟨"MountSpacesModel", "get", "(I)I"⟩,
  ⟨"MountSpacesModel", "put", "(II)V"⟩,
  ⟨"MountSpacesModel", "add", "(II)V"⟩,
  ⟨"MountSpacesModel", "copies", "(II)V"⟩,
  ⟨"MountSpacesModel", "change", "()V"⟩,
  ⟨"MountSpacesModel", "right", "(ZI)Z"⟩,
  ⟨"MountSpacesModel", "volumeAt", "(II)I"⟩,
  ⟨"MountSpacesModel", "directoryAt", "(III)I"⟩,
  ⟨"MountSpacesModel", "mountCell", "(II)I"⟩,
  ⟨"MountSpacesModel", "of", "(II)I"⟩,
  ⟨"MountSpacesModel", "dirsOf", "(I)I"⟩,
  ⟨"MountSpacesModel", "outerOf", "(II)I"⟩,
  ⟨"MountSpacesModel", "firstDirectory", "(I)V"⟩,
  ⟨"MountSpacesModel", "begins", "(I)V"⟩,
  ⟨"MountSpacesModel", "makes", "(III)I"⟩,
  ⟨"MountSpacesModel", "find", "(I)I"⟩,
  ⟨"MountSpacesModel", "isBelow", "(III)Z"⟩,
  ⟨"MountSpacesModel", "hasDirectory", "(II)Z"⟩,
  ⟨"MountSpacesModel", "onPlace", "(II)I"⟩,
  ⟨"MountSpacesModel", "isBusy", "(I)Z"⟩,
  ⟨"MountSpacesModel", "isUnder", "(II)Z"⟩,
  ⟨"MountSpacesModel", "remove", "(I)V"⟩,
  ⟨"MountSpacesModel", "isFollowing", "(I)Z"⟩,
  ⟨"MountSpacesModel", "findFollowers", "(I)I"⟩,
  ⟨"MountSpacesModel", "isCopied", "(III)Z"⟩,
  ⟨"MountSpacesModel", "copiesAt", "(II)I"⟩,
  ⟨"MountSpacesModel", "newGroup", "()I"⟩,
  ⟨"MountSpacesModel", "nextOld", "(I)I"⟩,
  ⟨"MountSpacesModel", "laysGroups", "(II)V"⟩,
  ⟨"MountSpacesModel", "freshOf", "(I)I"⟩,
  ⟨"MountSpacesModel", "copyOn", "(IIII)V"⟩,
  ⟨"MountSpacesModel", "spreads", "(III)I"⟩,
  ⟨"MountSpacesModel", "stands", "(III)V"⟩,
  ⟨"MountSpacesModel", "mounts", "(III)I"⟩,
  ⟨"MountSpacesModel", "binds", "(IIII)I"⟩,
  ⟨"MountSpacesModel", "refusal", "(III)I"⟩,
  ⟨"MountSpacesModel", "moves", "(III)I"⟩,
  ⟨"MountSpacesModel", "isRemoved", "(III)Z"⟩,
  ⟨"MountSpacesModel", "unmounts", "(I)I"⟩,
  ⟨"MountSpacesModel", "groupMany", "(I)I"⟩,
  ⟨"MountSpacesModel", "makesKind", "(II)V"⟩,
  ⟨"MountSpacesModel", "countIn", "(I)I"⟩,
  ⟨"MountSpacesModel", "copyOf", "(IIZ)V"⟩,
  ⟨"MountSpacesModel", "copiesSpace", "(IZ)I"⟩,
  ⟨"MountSpacesModel", "down", "()V"⟩,
  ⟨"MountSpacesModel", "fromRoot", "(I)V"⟩,
  ⟨"MountSpacesModel", "append", "(IIIII)I"⟩,
  ⟨"MountSpacesModel", "fails", "(II)V"⟩,
  ⟨"MountSpacesModel", "sees", "()I"⟩,
  ⟨"MountSpacesModel", "isLetterOf", "(I)Z"⟩,
  ⟨"MountSpacesModel", "takes", "(Ljava/lang/String;)Z"⟩,
  ⟨"MountSpacesModel", "wants", "(I)V"⟩,
  ⟨"MountSpacesModel", "name", "()Z"⟩,
  ⟨"MountSpacesModel", "isNameAt", "(I)Z"⟩,
  ⟨"MountSpacesModel", "nameInto", "(I)V"⟩,
  ⟨"MountSpacesModel", "volumeNamed", "()I"⟩,
  ⟨"MountSpacesModel", "directoryNamed", "(II)I"⟩,
  ⟨"MountSpacesModel", "directory", "(II)V"⟩,
  ⟨"MountSpacesModel", "inside", "(II)V"⟩,
  ⟨"MountSpacesModel", "volume", "()Z"⟩,
  ⟨"MountSpacesModel", "knownVolume", "()I"⟩,
  ⟨"MountSpacesModel", "goesTo", "()V"⟩,
  ⟨"MountSpacesModel", "path0", "(I)V"⟩,
  ⟨"MountSpacesModel", "statement", "()V"⟩,
  ⟨"MountSpacesModel", "ends", "()I"⟩,
  ⟨"MountSpacesModel", "texts", "()V"⟩,
  ⟨"MountSpacesModel", "load", "(I)I"⟩,
  ⟨"MountSpacesModel", "errorOffset", "()I"⟩,
  ⟨"MountSpacesModel", "countOf", "(I)I"⟩,
  ⟨"MountSpacesModel", "counted", "(I)I"⟩,
  ⟨"MountSpacesModel", "count", "(I)I"⟩,
  ⟨"MountSpacesModel", "noVolume", "(II)Z"⟩,
  ⟨"MountSpacesModel", "directories", "(I)I"⟩,
  ⟨"MountSpacesModel", "outer", "(II)I"⟩,
  ⟨"MountSpacesModel", "known", "(I)I"⟩,
  ⟨"MountSpacesModel", "noPlace", "(II)Z"⟩,
  ⟨"MountSpacesModel", "told", "(II)I"⟩,
  ⟨"MountSpacesModel", "mountAt", "(I)I"⟩,
  ⟨"MountSpacesModel", "mountOn", "(II)I"⟩,
  ⟨"MountSpacesModel", "look", "(II)I"⟩,
  ⟨"MountSpacesModel", "meets", "(II)Z"⟩,
  ⟨"MountSpacesModel", "meetsInside", "(II)Z"⟩,
  ⟨"MountSpacesModel", "look0", "(I)I"⟩,
  ⟨"MountSpacesModel", "seen", "(I)I"⟩,
  ⟨"MountSpacesModel", "isSeen", "(II)Z"⟩,
  ⟨"MountSpacesModel", "followers", "(I)I"⟩,
  ⟨"MountSpacesModel", "wouldMake", "(II)I"⟩,
  ⟨"MountSpacesModel", "writesName", "(II)V"⟩,
  ⟨"MountSpacesModel", "writesDown", "(II)V"⟩,
  ⟨"MountSpacesModel", "path", "(I)I"⟩,
  ⟨"MountSpacesModel", "pathByte", "(I)I"⟩,
  ⟨"MountSpacesModel", "mount", "(III)I"⟩,
  ⟨"MountSpacesModel", "bind", "(IIII)I"⟩,
  ⟨"MountSpacesModel", "move", "(III)I"⟩,
  ⟨"MountSpacesModel", "unmount", "(I)I"⟩,
  ⟨"MountSpacesModel", "make", "(II)I"⟩,
  ⟨"MountSpacesModel", "copySpace", "(IZ)I"⟩,
  ⟨"MountSpacesModel", "dropSpace", "()I"⟩,
  ⟨"MountSpacesModel", "undo", "()I"⟩,
  ⟨"MountSpacesModel", "adds", "(J)V"⟩,
  ⟨"MountSpacesModel", "checksum", "()J"⟩,
  ⟨"MountSpacesLaw", "load", "(LMountSpaces;I[J)I"⟩,
  ⟨"MountSpacesLaw", "count", "(LMountSpaces;I[J)I"⟩,
  ⟨"MountSpacesLaw", "directories", "(LMountSpaces;I[J)I"⟩,
  ⟨"MountSpacesLaw", "outer", "(LMountSpaces;II[J)I"⟩,
  ⟨"MountSpacesLaw", "told", "(LMountSpaces;II[J)I"⟩,
  ⟨"MountSpacesLaw", "mountAt", "(LMountSpaces;I[J)I"⟩,
  ⟨"MountSpacesLaw", "mountOn", "(LMountSpaces;II[J)I"⟩,
  ⟨"MountSpacesLaw", "look", "(LMountSpaces;II[J)I"⟩,
  ⟨"MountSpacesLaw", "seen", "(LMountSpaces;I[J)I"⟩,
  ⟨"MountSpacesLaw", "isSeen", "(LMountSpaces;II[J)I"⟩,
  ⟨"MountSpacesLaw", "followers", "(LMountSpaces;I[J)I"⟩,
  ⟨"MountSpacesLaw", "wouldMake", "(LMountSpaces;II[J)I"⟩,
  ⟨"MountSpacesLaw", "path", "(LMountSpaces;I[J)I"⟩,
  ⟨"MountSpacesLaw", "pathByte", "(LMountSpaces;I[J)I"⟩,
  ⟨"MountSpacesLaw", "mount", "(LMountSpaces;III[J)I"⟩,
  ⟨"MountSpacesLaw", "bind", "(LMountSpaces;IIII[J)I"⟩,
  ⟨"MountSpacesLaw", "move", "(LMountSpaces;III[J)I"⟩,
  ⟨"MountSpacesLaw", "unmount", "(LMountSpaces;I[J)I"⟩,
  ⟨"MountSpacesLaw", "make", "(LMountSpaces;II[J)I"⟩,
  ⟨"MountSpacesLaw", "copySpace", "(LMountSpaces;IZ[J)I"⟩,
  ⟨"MountSpacesLaw", "dropSpace", "(LMountSpaces;[J)I"⟩,
  ⟨"MountSpacesLaw", "law", "([I)Z"⟩]
def mCx : List Nat := [0, 0, 0, 0, 0, 0, 0, 0, 0, 0, 0, 0, 0, 0, 0, 0, 0, 0, 1, 1, 1, 1, 1, 2, 2, 2, 2, 2, 2, 2, 2, 2, 2, 2, 2, 3, 3, 3, 3, 3, 3, 3, 3, 3, 3, 3, 3, 3, 3, 3, 3, 4, 4, 4, 5, 5, 5, 5, 5, 6, 6, 6, 6, 6, 6, 6, 6, 6, 6, 6, 6, 6, 6, 7, 7, 7, 7, 7, 8, 8, 8, 8, 8, 8, 8, 8, 8, 8, 9, 9, 9, 9, 9, 10, 10, 10, 10, 10, 10, 10, 10, 10, 10, 10, 10, 10, 10, 10, 10, 10, 10, 10, 10, 10, 10, 10, 10, 10, 10, 10, 10, 10, 10, 10, 10, 10, 11, 11, 11, 11, 11, 11, 11, 11, 11, 11, 11, 11, 11, 11, 11, 11, 11, 11, 11, 11, 11, 11, 11, 11, 11, 11, 11, 11, 11, 11, 11, 11, 11, 11, 11, 11, 11, 11, 11, 11, 11, 11, 11, 11, 11, 11, 11, 11, 11, 11, 11, 11, 11, 11, 11, 11, 11, 11, 11, 11, 11, 11, 11, 11, 11, 11, 11, 11, 11, 11, 11, 11, 11, 11, 11, 11, 11, 11, 11, 11, 11, 11, 11, 11, 11, 11, 11, 11, 11, 11, 11, 11, 11, 11, 11, 11, 11, 11, 11, 11, 11, 11, 11, 11, 12, 12, 12, 12, 12, 12, 12, 12, 12, 12, 12, 12, 12, 12, 12, 12, 12, 12, 12, 12, 12, 12]
def mMx : List Nat := [2, 6, 7, 6, 7, 5, 8, 7, 4, 3, 6, 9, 8, 4, 4, 8, 6, 2, 2, 3, 4, 2, 4, 1, 2, 3, 2, 1, 2, 2, 1, 2, 2, 3, 3, 1, 2, 5, 3, 3, 1, 3, 4, 2, 3, 3, 5, 2, 4, 3, 2, 2, 3, 3, 2, 5, 7, 4, 2, 3, 1, 2, 2, 5, 6, 2, 3, 3, 2, 3, 2, 2, 1, 2, 3, 1, 5, 4, 1, 1, 2, 5, 2, 3, 3, 3, 6, 2, 2, 5, 3, 4, 4, 1, 6, 3, 2, 1, 2, 2, 3, 2, 4, 3, 4, 2, 4, 4, 2, 2, 4, 2, 4, 2, 2, 5, 7, 6, 3, 4, 3, 1, 1, 4, 8, 7, 1, 1, 6, 2, 3, 3, 4, 2, 3, 2, 3, 2, 3, 2, 3, 2, 3, 6, 3, 5, 3, 4, 3, 4, 3, 3, 5, 4, 5, 1, 4, 4, 3, 7, 8, 4, 6, 7, 5, 8, 4, 12, 4, 4, 4, 5, 6, 2, 3, 8, 3, 1, 1, 5, 2, 1, 3, 3, 2, 4, 4, 3, 3, 2, 2, 2, 4, 3, 3, 4, 1, 4, 2, 2, 3, 2, 3, 4, 3, 4, 2, 5, 3, 5, 5, 5, 2, 5, 3, 5, 4, 6, 5, 2, 5, 7, 6, 3, 4, 3, 2, 1, 3, 3, 4, 4, 4, 5, 5, 4, 5, 5, 4, 5, 4, 5, 4, 4, 6, 7, 6, 4, 5, 5, 3, 7]
def mNa : List Nat := [1, 3, 4, 3, 3, 2, 3, 3, 2, 1, 4, 1, 4, 2, 2, 2, 3, 0, 1, 1, 1, 1, 1, 0, 1, 1, 1, 0, 1, 1, 0, 1, 1, 1, 0, 0, 1, 3, 1, 2, 0, 1, 2, 1, 1, 1, 2, 1, 1, 2, 1, 0, 1, 1, 1, 1, 1, 1, 1, 2, 0, 0, 0, 3, 3, 0, 0, 0, 0, 0, 1, 0, 0, 1, 1, 0, 2, 2, 0, 0, 1, 3, 1, 2, 2, 1, 3, 1, 1, 2, 1, 2, 1, 0, 5, 1, 1, 0, 1, 1, 2, 1, 2, 1, 2, 1, 2, 2, 1, 1, 2, 1, 2, 1, 1, 3, 4, 3, 1, 2, 2, 0, 0, 0, 1, 2, 0, 0, 3, 1, 2, 2, 2, 0, 2, 2, 3, 2, 2, 1, 2, 1, 1, 3, 1, 3, 2, 2, 1, 2, 1, 1, 1, 3, 2, 0, 1, 2, 1, 4, 3, 3, 3, 4, 3, 3, 3, 1, 1, 2, 1, 3, 2, 0, 1, 5, 2, 0, 1, 1, 1, 0, 1, 1, 0, 2, 2, 2, 0, 0, 0, 1, 0, 0, 0, 1, 0, 1, 1, 1, 2, 1, 2, 1, 2, 2, 1, 2, 2, 2, 2, 1, 1, 2, 1, 2, 2, 2, 1, 1, 3, 4, 3, 1, 2, 2, 0, 0, 1, 0, 3, 3, 3, 4, 4, 3, 4, 4, 3, 4, 3, 4, 3, 3, 5, 6, 5, 3, 4, 4, 2, 1]
def mKd : List Nat := [2, 0, 0, 0, 0, 0, 0, 0, 0, 0, 0, 0, 0, 0, 0, 0, 0, 0, 2, 0, 0, 0, 0, 2, 0, 0, 0, 0, 0, 0, 0, 0, 0, 0, 0, 2, 0, 0, 0, 0, 0, 0, 0, 0, 0, 0, 0, 0, 0, 0, 0, 2, 0, 0, 2, 0, 0, 0, 0, 2, 0, 0, 0, 0, 0, 0, 0, 0, 0, 0, 0, 0, 0, 2, 0, 0, 0, 0, 2, 0, 0, 0, 0, 0, 0, 0, 0, 0, 2, 0, 0, 0, 0, 2, 0, 0, 0, 0, 0, 0, 0, 0, 0, 0, 0, 0, 0, 0, 0, 0, 0, 0, 0, 0, 0, 0, 0, 0, 0, 0, 0, 0, 0, 0, 0, 0, 2, 0, 1, 0, 0, 0, 0, 0, 0, 1, 1, 1, 0, 0, 0, 0, 0, 0, 0, 0, 0, 0, 0, 0, 0, 0, 0, 0, 0, 0, 0, 0, 0, 0, 0, 0, 0, 0, 0, 0, 0, 0, 0, 0, 0, 0, 0, 0, 0, 0, 0, 0, 1, 0, 0, 0, 0, 0, 0, 0, 0, 0, 0, 0, 0, 0, 0, 0, 0, 0, 0, 0, 0, 0, 0, 0, 0, 0, 0, 0, 0, 0, 0, 0, 0, 0, 0, 0, 0, 0, 0, 0, 0, 0, 0, 0, 0, 0, 0, 0, 0, 0, 0, 0, 1, 1, 1, 1, 1, 1, 1, 1, 1, 1, 1, 1, 1, 1, 1, 1, 1, 1, 1, 1, 1, 1]
def mWi : List Nat := [295, 874, 928, 1169, 1173, 1182, 879, 895, 903, 915, 911, 1193, 1205, 945, 949, 1225, 1229, 1257, 301, 593, 597, 601, 907, 149, 528, 532, 716, 726, 730, 795, 953, 799, 739, 743, 820, 186, 482, 486, 1197, 1201, 899, 884, 621, 1116, 1178, 613, 888, 565, 569, 589, 548, 455, 957, 544, 405, 1112, 1121, 1134, 1130, 429, 734, 803, 816, 829, 833, 842, 846, 851, 856, 924, 919, 932, 937, 381, 605, 625, 629, 1086, 192, 811, 474, 478, 577, 581, 1125, 824, 837, 552, 357, 617, 609, 860, 866, 141, 524, 640, 644, 536, 965, 974, 1001, 978, 1010, 1014, 1051, 1039, 1047, 1061, 1065, 1075, 1082, 1093, 1100, 1108, 1141, 1149, 1157, 1165, 1189, 1212, 1221, 1237, 540, 560, 573, 585, 1262, 1388, 1399, 1289, 1267, 1296, 1590, 1586, 1403, 1274, 1277, 1292, 1492, 1466, 1470, 1271, 1281, 1285, 1631, 1536, 1532, 1500, 1715, 1719, 1731, 1520, 1516, 1528, 1524, 1548, 1556, 1552, 1564, 1560, 1544, 1540, 1512, 1569, 1711, 1707, 1735, 1727, 1582, 1578, 1752, 1756, 1748, 1496, 1488, 1392, 1425, 1416, 1419, 1412, 1429, 1438, 1446, 1450, 1442, 1462, 1458, 1454, 1433, 1475, 1504, 1484, 1479, 1508, 1407, 1396, 1594, 1607, 1603, 1598, 1615, 1611, 1619, 1627, 1643, 1623, 1635, 1639, 1647, 1659, 1663, 1655, 1651, 1667, 1671, 1675, 1687, 1683, 1679, 1691, 1695, 1699, 1703, 1723, 1739, 1744, 1760, 1764, 1772, 1768, 635, 961, 969, 997, 1005, 1035, 1043, 1057, 1071, 1078, 1089, 1096, 1104, 1137, 1145, 1153, 1161, 1185, 1208, 1217, 1232, 0]
/-- where the words of a method stand: initialized, instanceMethod or static, selects -/
def mWs : List (Nat × Nat × Nat) := [(116, 294, 9999), (116, 872, 873), (116, 926, 927), (116, 1167, 1168), (116, 1172, 34), (116, 1181, 35), (116, 877, 878), (116, 894, 18), (116, 902, 19), (116, 914, 21), (116, 910, 20), (116, 1191, 1192), (116, 1204, 37), (116, 943, 944), (116, 948, 26), (116, 1223, 1224), (116, 1228, 38), (116, 1255, 1256), (117, 300, 9999), (117, 591, 592), (117, 596, 3), (117, 600, 4), (117, 905, 906), (113, 148, 9999), (113, 526, 527), (113, 530, 531), (113, 714, 715), (113, 724, 725), (113, 729, 9), (113, 793, 794), (113, 951, 952), (113, 797, 798), (113, 737, 738), (113, 741, 742), (113, 818, 819), (114, 185, 9999), (114, 480, 481), (114, 484, 485), (114, 1195, 1196), (114, 1200, 36), (114, 897, 898), (114, 882, 883), (114, 619, 620), (114, 1114, 1115), (114, 1176, 1177), (114, 611, 612), (114, 886, 887), (114, 563, 564), (114, 568, 0), (114, 587, 588), (114, 546, 547), (122, 454, 9999), (122, 955, 956), (122, 542, 543), (120, 404, 9999), (120, 1110, 1111), (120, 1120, 31), (120, 1133, 33), (120, 1129, 32), (121, 428, 9999), (121, 732, 733), (121, 802, 10), (121, 815, 11), (121, 828, 12), (121, 832, 13), (121, 841, 14), (121, 845, 15), (121, 849, 850), (121, 855, 16), (121, 923, 23), (121, 918, 22), (121, 931, 24), (121, 936, 25), (119, 380, 9999), (119, 603, 604), (119, 624, 5), (119, 628, 6), (119, 1084, 1085), (115, 191, 9999), (115, 809, 810), (115, 472, 473), (115, 476, 477), (115, 575, 576), (115, 579, 580), (115, 1123, 1124), (115, 822, 823), (115, 835, 836), (115, 550, 551), (118, 356, 9999), (118, 615, 616), (118, 607, 608), (118, 858, 859), (118, 865, 17), (112, 140, 9999), (112, 522, 523), (112, 638, 639), (112, 643, 7), (112, 534, 535), (112, 963, 964), (112, 972, 973), (112, 999, 1000), (112, 977, 27), (112, 1008, 1009), (112, 1013, 28), (112, 1050, 29), (112, 1037, 1038), (112, 1045, 1046), (112, 1059, 1060), (112, 1064, 30), (112, 1073, 1074), (112, 1080, 1081), (112, 1091, 1092), (112, 1098, 1099), (112, 1106, 1107), (112, 1139, 1140), (112, 1147, 1148), (112, 1155, 1156), (112, 1163, 1164), (112, 1187, 1188), (112, 1210, 1211), (112, 1219, 1220), (112, 1235, 1236), (112, 538, 539), (112, 558, 559), (112, 572, 1), (112, 584, 2), (123, 1261, 9999), (123, 1386, 1387), (123, 1398, 9999), (123, 1288, 43), (123, 1266, 39), (123, 1295, 44), (123, 1589, 88), (123, 1585, 87), (123, 1402, 45), (123, 1273, 9999), (123, 1276, 9999), (123, 1291, 9999), (123, 1491, 65), (123, 1465, 59), (123, 1469, 60), (123, 1270, 40), (123, 1280, 41), (123, 1284, 42), (123, 1630, 93), (123, 1535, 76), (123, 1531, 75), (123, 1499, 67), (123, 1714, 102), (123, 1718, 103), (123, 1730, 105), (123, 1519, 72), (123, 1515, 71), (123, 1527, 74), (123, 1523, 73), (123, 1547, 79), (123, 1555, 81), (123, 1551, 80), (123, 1563, 83), (123, 1559, 82), (123, 1543, 78), (123, 1539, 77), (123, 1511, 70), (123, 1568, 84), (123, 1710, 101), (123, 1706, 100), (123, 1734, 106), (123, 1726, 104), (123, 1581, 86), (123, 1577, 85), (123, 1751, 108), (123, 1755, 109), (123, 1747, 107), (123, 1495, 66), (123, 1487, 64), (123, 1390, 1391), (123, 1424, 49), (123, 1415, 48), (123, 1418, 9999), (123, 1411, 47), (123, 1428, 50), (123, 1437, 52), (123, 1445, 54), (123, 1449, 55), (123, 1441, 53), (123, 1461, 58), (123, 1457, 57), (123, 1453, 56), (123, 1432, 51), (123, 1474, 61), (123, 1503, 68), (123, 1483, 63), (123, 1478, 62), (123, 1507, 69), (123, 1406, 46), (123, 1394, 1395), (123, 1592, 1593), (123, 1606, 90), (123, 1602, 89), (123, 1596, 1597), (123, 1614, 91), (123, 1609, 1610), (123, 1617, 1618), (123, 1626, 92), (123, 1642, 94), (123, 1621, 1622), (123, 1633, 1634), (123, 1637, 1638), (123, 1645, 1646), (123, 1658, 96), (123, 1662, 97), (123, 1654, 95), (123, 1649, 1650), (123, 1665, 1666), (123, 1669, 1670), (123, 1673, 1674), (123, 1686, 99), (123, 1682, 98), (123, 1677, 1678), (123, 1689, 1690), (123, 1693, 1694), (123, 1697, 1698), (123, 1701, 1702), (123, 1721, 1722), (123, 1737, 1738), (123, 1742, 1743), (123, 1758, 1759), (123, 1762, 1763), (123, 1771, 110), (123, 1766, 1767), (111, 634, 9999), (111, 960, 9999), (111, 968, 9999), (111, 996, 9999), (111, 1004, 9999), (111, 1034, 9999), (111, 1042, 9999), (111, 1056, 9999), (111, 1070, 9999), (111, 1077, 9999), (111, 1088, 9999), (111, 1095, 9999), (111, 1103, 9999), (111, 1136, 9999), (111, 1144, 9999), (111, 1152, 9999), (111, 1160, 9999), (111, 1184, 9999), (111, 1207, 9999), (111, 1216, 9999), (111, 1231, 9999), (111, 9999, 9999)]
def exW : List Nat := [647, 1240, 981, 1018]
def mRt : List (Option FieldType) := [none, some .int, some .int, some .int, some .int, some .boolean, some .int, none, none, some .int, none, some .int, some .int, some .int, some .boolean, some .int, none, some .int, none, none, none, none, some .int, none, some .boolean, none, none, none, some .boolean, some .boolean, some .boolean, some .boolean, some .boolean, some .boolean, some .int, none, none, some .int, none, none, some .int, some .int, some .int, some .int, some .boolean, some .int, some .boolean, some .int, some .int, some .int, none, none, none, none, none, some .int, none, none, none, none, some .boolean, some .boolean, some .boolean, some .boolean, some .boolean, some .boolean, some .int, some .boolean, some .boolean, some .boolean, some .boolean, some .boolean, some .int, none, some .int, none, none, some .boolean, none, some .boolean, none, some .int, some .int, some .int, some .int, some .int, some .int, none, none, none, none, some .boolean, some .boolean, none, some .int, some .int, none, some .int, some .int, some .int, some .int, none, some .int, some .int, some .int, some .int, some .int, some .int, none, some .int, some .boolean, some .int, some .int, some .int, some .int, some .int, some .int, some .int, some .int, some .int, some .int, some .int, some .int, some .long, some .long, some .long, none, some .int, some .boolean, some .int, none, none, none, none, some .boolean, some .int, some .int, some .int, some .int, some .int, some .int, none, none, some .int, some .int, some .boolean, some .boolean, some .int, some .boolean, some .boolean, none, some .boolean, some .int, some .boolean, some .int, some .int, some .int, none, some .int, none, some .int, none, some .int, some .int, some .int, some .int, some .boolean, some .int, some .int, none, some .int, none, some .int, none, none, some .int, none, some .int, some .boolean, some .boolean, none, some .boolean, some .boolean, none, some .int, some .int, none, none, some .boolean, some .int, none, none, none, some .int, none, some .int, some .int, some .int, some .int, some .int, some .boolean, some .int, some .int, some .int, some .boolean, some .int, some .int, some .int, some .int, some .boolean, some .boolean, some .int, some .int, some .boolean, some .int, some .int, none, none, some .int, some .int, some .int, some .int, some .int, some .int, some .int, some .int, some .int, some .int, none, some .long, some .int, some .int, some .int, some .int, some .int, some .int, some .int, some .int, some .int, some .int, some .int, some .int, some .int, some .int, some .int, some .int, some .int, some .int, some .int, some .int, some .int, some .boolean]
def mBy : List ByteArray := [prog_2_method_1_code, prog_2_method_2_code, prog_2_method_3_code, prog_2_method_4_code, prog_2_method_5_code, prog_2_method_6_code, prog_2_method_7_code, prog_2_method_8_code, prog_2_method_9_code, prog_2_method_10_code, prog_2_method_11_code, prog_2_method_12_code, prog_2_method_13_code, prog_2_method_14_code, prog_2_method_15_code, prog_2_method_16_code, prog_2_method_17_code, prog_2_method_18_code, prog_3_method_1_code, prog_3_method_2_code, prog_3_method_3_code, prog_3_method_4_code, prog_3_method_5_code, prog_4_method_1_code, prog_4_method_2_code, prog_4_method_3_code, prog_4_method_4_code, prog_4_method_5_code, prog_4_method_6_code, prog_4_method_7_code, prog_4_method_8_code, prog_4_method_9_code, prog_4_method_10_code, prog_4_method_11_code, prog_4_method_12_code, prog_5_method_1_code, prog_5_method_2_code, prog_5_method_3_code, prog_5_method_4_code, prog_5_method_5_code, prog_5_method_6_code, prog_5_method_7_code, prog_5_method_8_code, prog_5_method_9_code, prog_5_method_10_code, prog_5_method_11_code, prog_5_method_12_code, prog_5_method_13_code, prog_5_method_14_code, prog_5_method_15_code, prog_5_method_16_code, prog_6_method_1_code, prog_6_method_2_code, prog_6_method_3_code, prog_7_method_1_code, prog_7_method_2_code, prog_7_method_3_code, prog_7_method_4_code, prog_7_method_5_code, prog_8_method_1_code, prog_8_method_2_code, prog_8_method_3_code, prog_8_method_4_code, prog_8_method_5_code, prog_8_method_6_code, prog_8_method_7_code, prog_8_method_8_code, prog_8_method_9_code, prog_8_method_10_code, prog_8_method_11_code, prog_8_method_12_code, prog_8_method_13_code, prog_8_method_14_code, prog_9_method_1_code, prog_9_method_2_code, prog_9_method_3_code, prog_9_method_4_code, prog_9_method_5_code, prog_10_method_1_code, prog_10_method_2_code, prog_10_method_3_code, prog_10_method_4_code, prog_10_method_5_code, prog_10_method_6_code, prog_10_method_7_code, prog_10_method_8_code, prog_10_method_9_code, prog_10_method_10_code, prog_11_method_1_code, prog_11_method_2_code, prog_11_method_3_code, prog_11_method_4_code, prog_11_method_5_code, prog_1_method_1_code, prog_1_method_2_code, prog_1_method_3_code, prog_1_method_4_code, prog_1_method_5_code, prog_1_method_6_code, prog_1_method_7_code, prog_1_method_8_code, prog_1_method_9_code, prog_1_method_10_code, prog_1_method_11_code, prog_1_method_12_code, prog_1_method_13_code, prog_1_method_14_code, prog_1_method_15_code, prog_1_method_16_code, prog_1_method_17_code, prog_1_method_18_code, prog_1_method_19_code, prog_1_method_20_code, prog_1_method_21_code, prog_1_method_22_code, prog_1_method_23_code, prog_1_method_24_code, prog_1_method_25_code, prog_1_method_26_code, prog_1_method_27_code, prog_1_method_28_code, prog_1_method_29_code, prog_1_method_30_code, prog_1_method_31_code, prog_1_method_32_code, prog_1_method_33_code, prog_13_method_1_code, prog_13_method_2_code, prog_13_method_3_code, prog_13_method_4_code, prog_13_method_5_code, prog_13_method_6_code, prog_13_method_7_code, prog_13_method_8_code, prog_13_method_9_code, prog_13_method_10_code, prog_13_method_11_code, prog_13_method_12_code, prog_13_method_13_code, prog_13_method_14_code, prog_13_method_15_code, prog_13_method_16_code, prog_13_method_17_code, prog_13_method_18_code, prog_13_method_19_code, prog_13_method_20_code, prog_13_method_21_code, prog_13_method_22_code, prog_13_method_23_code, prog_13_method_24_code, prog_13_method_25_code, prog_13_method_26_code, prog_13_method_27_code, prog_13_method_28_code, prog_13_method_29_code, prog_13_method_30_code, prog_13_method_31_code, prog_13_method_32_code, prog_13_method_33_code, prog_13_method_34_code, prog_13_method_35_code, prog_13_method_36_code, prog_13_method_37_code, prog_13_method_38_code, prog_13_method_39_code, prog_13_method_40_code, prog_13_method_41_code, prog_13_method_42_code, prog_13_method_43_code, prog_13_method_44_code, prog_13_method_45_code, prog_13_method_46_code, prog_13_method_47_code, prog_13_method_48_code, prog_13_method_49_code, prog_13_method_50_code, prog_13_method_51_code, prog_13_method_52_code, prog_13_method_53_code, prog_13_method_54_code, prog_13_method_55_code, prog_13_method_56_code, prog_13_method_57_code, prog_13_method_58_code, prog_13_method_59_code, prog_13_method_60_code, prog_13_method_61_code, prog_13_method_62_code, prog_13_method_63_code, prog_13_method_64_code, prog_13_method_65_code, prog_13_method_66_code, prog_13_method_67_code, prog_13_method_68_code, prog_13_method_69_code, prog_13_method_70_code, prog_13_method_71_code, prog_13_method_72_code, prog_13_method_73_code, prog_13_method_74_code, prog_13_method_75_code, prog_13_method_76_code, prog_13_method_77_code, prog_13_method_78_code, prog_13_method_79_code, prog_13_method_80_code, prog_13_method_81_code, prog_13_method_82_code, prog_13_method_83_code, prog_13_method_84_code, prog_13_method_85_code, prog_13_method_86_code, prog_13_method_87_code, prog_13_method_88_code, prog_13_method_89_code, prog_13_method_90_code, prog_13_method_91_code, prog_13_method_92_code, prog_13_method_93_code, prog_13_method_94_code, prog_13_method_95_code, prog_13_method_96_code, prog_13_method_97_code, prog_13_method_98_code, prog_13_method_99_code, prog_13_method_100_code, prog_13_method_101_code, prog_13_method_102_code, prog_13_method_103_code, prog_13_method_104_code, method_3_code, method_4_code, method_5_code, method_6_code, method_7_code, method_8_code, method_9_code, method_10_code, method_11_code, method_12_code, method_13_code, method_14_code, method_15_code, method_16_code, method_17_code, method_18_code, method_19_code, method_20_code, method_21_code, method_22_code, method_23_code, code]
def mHh : List (List (Nat × Nat × Nat × Nat)) := [[], [], [], [], [], [], [], [], [], [], [], [], [], [], [], [], [], [], [], [], [], [], [], [], [], [], [], [], [], [], [], [], [], [], [], [], [], [], [], [], [], [], [], [], [], [], [], [], [], [], [], [], [], [], [], [], [], [], [], [], [], [], [], [], [], [], [], [], [], [], [], [], [], [], [], [], [], [], [], [], [], [], [], [], [], [], [], [], [], [], [], [], [], [], [], [], [], [], [], [], [], [], [], [], [], [], [], [], [], [], [], [], [], [], [], [], [], [], [], [], [], [], [], [], [], [], [], [], [], [], [], [], [], [], [], [], [], [], [], [], [], [], [], [], [], [], [], [], [], [], [], [], [], [], [], [], [], [], [], [], [], [], [], [], [], [], [], [], [], [], [], [], [], [], [], [], [], [], [], [], [], [], [], [], [], [], [], [], [], [], [], [], [], [], [], [], [], [], [], [], [], [], [], [], [], [], [], [], [], [], [], [], [], [], [], [], [], [], [], [], [], [], [], [], [], [], [], [], [], [], [(0, 9, 12, 13)], [(0, 9, 12, 13)], [(0, 9, 12, 21)], [(0, 10, 13, 21)], [(0, 10, 13, 30), (0, 10, 17, 13)], [(0, 9, 12, 21)], [(0, 10, 13, 30)], [(0, 10, 13, 21), (0, 10, 17, 13)], [(0, 9, 12, 21)], [(0, 17, 20, 30)], [(0, 9, 12, 30)], [(0, 10, 13, 30)], [(0, 9, 12, 30)], [(0, 9, 12, 21)], [(0, 12, 15, 30), (0, 12, 19, 21)], [(0, 14, 17, 30)], [(0, 12, 15, 30)], [(0, 9, 12, 30)], [(0, 10, 13, 30), (0, 10, 17, 13)], [(0, 10, 13, 21)], [(0, 8, 11, 85)], []]
/-- (method, exception, from, to, where the handler is, its row) -/
def hndL : List (Nat × Nat × Nat × Nat × Nat × Nat) := [(230, 0, 0, 9, 12, 0), (231, 0, 0, 9, 12, 0), (232, 2, 0, 9, 12, 0), (233, 2, 0, 10, 13, 0), (234, 3, 0, 10, 13, 0), (234, 0, 0, 10, 17, 1), (235, 2, 0, 9, 12, 0), (236, 3, 0, 10, 13, 0), (237, 2, 0, 10, 13, 0), (237, 0, 0, 10, 17, 1), (238, 2, 0, 9, 12, 0), (239, 3, 0, 17, 20, 0), (240, 3, 0, 9, 12, 0), (241, 3, 0, 10, 13, 0), (242, 3, 0, 9, 12, 0), (243, 2, 0, 9, 12, 0), (244, 3, 0, 12, 15, 0), (244, 2, 0, 12, 19, 1), (245, 3, 0, 14, 17, 0), (246, 3, 0, 12, 15, 0), (247, 3, 0, 9, 12, 0), (248, 3, 0, 10, 13, 0), (248, 0, 0, 10, 17, 1), (249, 2, 0, 10, 13, 0), (250, 1, 0, 8, 11, 0)]
def k_0 : List (Nat × Instr × Nat) := [(0, .aload_n 0, 1), (1, .invokespecial 3, 4), (4, .aload_n 0, 5), (5, .bipush 40, 7), (7, .newarray .int, 9), (9, .putfield 9, 12), (12, .aload_n 0, 13), (13, .bipush 40, 15), (15, .newarray .int, 17), (17, .putfield 15, 20), (20, .aload_n 0, 21), (21, .iconst 0, 22), (22, .putfield 18, 25), (25, .aload_n 0, 26), (26, .bipush 40, 28), (28, .newarray .int, 30), (30, .putfield 22, 33), (33, .aload_n 0, 34), (34, .aload_n 1, 35), (35, .putfield 25, 38), (38, .aload_n 0, 39), (39, .new 29, 42), (42, .dup, 43), (43, .aload_n 1, 44), (44, .invokespecial 31, 47), (47, .putfield 34, 50), (50, .return_, 51)]
def k_1 : List (Nat × Instr × Nat) := [(0, .aload_n 0, 1), (1, .getfield 25, 4), (4, .iload_n 1, 5), (5, .iload_n 2, 6), (6, .invokevirtual 38, 9), (9, .ifCond .lt 14, 12), (12, .iconst (-1), 13), (13, .ireturn, 14), (14, .iconst 1, 15), (15, .aload_n 0, 16), (16, .iload_n 1, 17), (17, .iload_n 2, 18), (18, .iconst (-1), 19), (19, .invokevirtual 44, 22), (22, .iadd, 23), (23, .istore 4, 25), (25, .aload_n 0, 26), (26, .getfield 25, 29), (29, .getfield 48, 32), (32, .iload 4, 34), (34, .iadd, 35), (35, .bipush 40, 37), (37, .if_icmp .le 43, 40), (40, .bipush (-8), 42), (42, .ireturn, 43), (43, .aload_n 0, 44), (44, .getfield 25, 47), (47, .aload_n 0, 48), (48, .getfield 25, 51), (51, .getfield 51, 54), (54, .iload_n 1, 55), (55, .iaload, 56), (56, .iload_n 3, 57), (57, .iconst 0, 58), (58, .invokevirtual 54, 61), (61, .istore 5, 63), (63, .iload 5, 65), (65, .ifCond .lt 76, 68), (68, .aload_n 0, 69), (69, .iload 5, 71), (71, .iload_n 1, 72), (72, .iload_n 2, 73), (73, .invokevirtual 57, 76), (76, .iload 4, 78), (78, .ireturn, 79)]
def k_2 : List (Nat × Instr × Nat) := [(0, .aload_n 0, 1), (1, .getfield 25, 4), (4, .iload_n 3, 5), (5, .iload 4, 7), (7, .invokevirtual 38, 10), (10, .ifCond .lt 15, 13), (13, .iconst (-1), 14), (14, .ireturn, 15), (15, .aload_n 0, 16), (16, .getfield 25, 19), (19, .getfield 61, 22), (22, .iload_n 1, 23), (23, .iaload, 24), (24, .ifCond .eq 30, 27), (27, .bipush (-2), 29), (29, .ireturn, 30), (30, .aload_n 0, 31), (31, .getfield 25, 34), (34, .getfield 51, 37), (37, .iload_n 1, 38), (38, .iaload, 39), (39, .aload_n 0, 40), (40, .getfield 25, 43), (43, .getfield 51, 46), (46, .iload_n 3, 47), (47, .iaload, 48), (48, .if_icmp .eq 54, 51), (51, .bipush (-7), 53), (53, .ireturn, 54), (54, .iconst 1, 55), (55, .aload_n 0, 56), (56, .iload_n 3, 57), (57, .iload 4, 59), (59, .iconst (-1), 60), (60, .invokevirtual 44, 63), (63, .iadd, 64), (64, .istore 5, 66), (66, .aload_n 0, 67), (67, .getfield 25, 70), (70, .getfield 48, 73), (73, .iload 5, 75), (75, .iadd, 76), (76, .bipush 40, 78), (78, .if_icmp .le 84, 81), (81, .bipush (-8), 83), (83, .ireturn, 84), (84, .aload_n 0, 85), (85, .getfield 25, 88), (88, .aload_n 0, 89), (89, .getfield 25, 92), (92, .getfield 51, 95), (95, .iload_n 3, 96), (96, .iaload, 97), (97, .aload_n 0, 98), (98, .getfield 25, 101), (101, .getfield 64, 104), (104, .iload_n 1, 105), (105, .iaload, 106), (106, .iload_n 2, 107), (107, .invokevirtual 54, 110), (110, .istore 6, 112), (112, .iload 6, 114), (114, .ifCond .lt 164, 117), (117, .aload_n 0, 118), (118, .getfield 25, 121), (121, .getfield 67, 124), (124, .iload 6, 126), (126, .aload_n 0, 127), (127, .getfield 25, 130), (130, .getfield 67, 133), (133, .iload_n 1, 134), (134, .iaload, 135), (135, .iastore, 136), (136, .aload_n 0, 137), (137, .getfield 25, 140), (140, .getfield 70, 143), (143, .iload 6, 145), (145, .aload_n 0, 146), (146, .getfield 25, 149), (149, .getfield 70, 152), (152, .iload_n 1, 153), (153, .iaload, 154), (154, .iastore, 155), (155, .aload_n 0, 156), (156, .iload 6, 158), (158, .iload_n 3, 159), (159, .iload 4, 161), (161, .invokevirtual 57, 164), (164, .iload 5, 166), (166, .ireturn, 167)]
def k_3 : List (Nat × Instr × Nat) := [(0, .aload_n 0, 1), (1, .iload_n 1, 2), (2, .iload_n 2, 3), (3, .iload_n 3, 4), (4, .invokevirtual 73, 7), (7, .istore 4, 9), (9, .iload 4, 11), (11, .ifCond .eq 17, 14), (14, .iload 4, 16), (16, .ireturn, 17), (17, .aload_n 0, 18), (18, .iload_n 2, 19), (19, .iload_n 3, 20), (20, .iload_n 1, 21), (21, .invokevirtual 44, 24), (24, .istore 5, 26), (26, .aload_n 0, 27), (27, .getfield 25, 30), (30, .getfield 48, 33), (33, .iload 5, 35), (35, .iadd, 36), (36, .bipush 40, 38), (38, .if_icmp .le 44, 41), (41, .bipush (-8), 43), (43, .ireturn, 44), (44, .aload_n 0, 45), (45, .iload_n 1, 46), (46, .iload_n 2, 47), (47, .iload_n 3, 48), (48, .invokevirtual 57, 51), (51, .iload 5, 53), (53, .ireturn, 54)]
def k_4 : List (Nat × Instr × Nat) := [(0, .aload_n 0, 1), (1, .getfield 25, 4), (4, .getfield 67, 7), (7, .iload_n 2, 8), (8, .iaload, 9), (9, .ifCond .eq 16, 12), (12, .iconst 1, 13), (13, .goto 17, 16), (16, .iconst 0, 17), (17, .istore 4, 19), (19, .aload_n 0, 20), (20, .getfield 25, 23), (23, .iload_n 2, 24), (24, .iload_n 3, 25), (25, .invokevirtual 38, 28), (28, .ifCond .lt 33, 31), (31, .iconst (-1), 32), (32, .ireturn, 33), (33, .aload_n 0, 34), (34, .getfield 25, 37), (37, .getfield 61, 40), (40, .iload_n 1, 41), (41, .iaload, 42), (42, .ifCond .eq 53, 45), (45, .iload 4, 47), (47, .ifCond .eq 53, 50), (50, .bipush (-2), 52), (52, .ireturn, 53), (53, .aload_n 0, 54), (54, .getfield 25, 57), (57, .getfield 76, 60), (60, .iload_n 1, 61), (61, .iaload, 62), (62, .ifCond .eq 68, 65), (65, .bipush (-3), 67), (67, .ireturn, 68), (68, .aload_n 0, 69), (69, .getfield 25, 72), (72, .iload_n 1, 73), (73, .invokevirtual 79, 76), (76, .istore 5, 78), (78, .iload 5, 80), (80, .ifCond .ge 86, 83), (83, .bipush (-4), 85), (85, .ireturn, 86), (86, .iload 4, 88), (88, .ifCond .eq 105, 91), (91, .aload_n 0, 92), (92, .getfield 25, 95), (95, .iload_n 1, 96), (96, .invokevirtual 83, 99), (99, .ifCond .eq 105, 102), (102, .bipush (-5), 104), (104, .ireturn, 105), (105, .aload_n 0, 106), (106, .getfield 25, 109), (109, .getfield 67, 112), (112, .iload 5, 114), (114, .iaload, 115), (115, .ifCond .eq 121, 118), (118, .bipush (-6), 120), (120, .ireturn, 121), (121, .aload_n 0, 122), (122, .getfield 25, 125), (125, .getfield 51, 128), (128, .iload_n 1, 129), (129, .iaload, 130), (130, .aload_n 0, 131), (131, .getfield 25, 134), (134, .getfield 51, 137), (137, .iload_n 2, 138), (138, .iaload, 139), (139, .if_icmp .ne 151, 142), (142, .aload_n 0, 143), (143, .iload_n 2, 144), (144, .iload_n 1, 145), (145, .invokevirtual 87, 148), (148, .ifCond .eq 155, 151), (151, .iconst 1, 152), (152, .goto 156, 155), (155, .iconst 0, 156), (156, .istore 6, 158), (158, .iload 6, 160), (160, .ifCond .eq 168, 163), (163, .bipush (-7), 165), (165, .goto 169, 168), (168, .iconst 0, 169), (169, .ireturn, 170)]
def k_5 : List (Nat × Instr × Nat) := [(0, .iload_n 1, 1), (1, .istore_n 3, 2), (2, .iconst 0, 3), (3, .istore 4, 5), (5, .iload 4, 7), (7, .bipush 40, 9), (9, .if_icmp .ge 38, 12), (12, .iload_n 3, 13), (13, .ifCond .lt 38, 16), (16, .iload_n 3, 17), (17, .iload_n 2, 18), (18, .if_icmp .ne 23, 21), (21, .iconst 1, 22), (22, .ireturn, 23), (23, .aload_n 0, 24), (24, .getfield 25, 27), (27, .iload_n 3, 28), (28, .invokevirtual 79, 31), (31, .istore_n 3, 32), (32, .iinc 4 1, 35), (35, .goto 5, 38), (38, .iconst 0, 39), (39, .ireturn, 40)]
def k_6 : List (Nat × Instr × Nat) := [(0, .aload_n 0, 1), (1, .getfield 34, 4), (4, .iload_n 1, 5), (5, .invokevirtual 91, 8), (8, .iconst 0, 9), (9, .istore 4, 11), (11, .iconst 0, 12), (12, .istore 5, 14), (14, .iload 5, 16), (16, .aload_n 0, 17), (17, .getfield 34, 20), (20, .getfield 95, 23), (23, .if_icmp .ge 108, 26), (26, .aload_n 0, 27), (27, .getfield 25, 30), (30, .aload_n 0, 31), (31, .getfield 34, 34), (34, .getfield 98, 37), (37, .iload 5, 39), (39, .iaload, 40), (40, .invokevirtual 101, 43), (43, .istore 6, 45), (45, .iload 6, 47), (47, .ifCond .lt 102, 50), (50, .iload 6, 52), (52, .iload_n 1, 53), (53, .if_icmp .eq 102, 56), (56, .aload_n 0, 57), (57, .getfield 25, 60), (60, .iload 6, 62), (62, .iload_n 2, 63), (63, .invokevirtual 104, 66), (66, .ifCond .eq 102, 69), (69, .aload_n 0, 70), (70, .getfield 25, 73), (73, .iload 6, 75), (75, .iload_n 2, 76), (76, .invokevirtual 38, 79), (79, .istore 7, 81), (81, .iload 4, 83), (83, .iload 7, 85), (85, .ifCond .lt 94, 88), (88, .iload 7, 90), (90, .iload_n 3, 91), (91, .if_icmp .ne 98, 94), (94, .iconst 1, 95), (95, .goto 99, 98), (98, .iconst 0, 99), (99, .iadd, 100), (100, .istore 4, 102), (102, .iinc 5 1, 105), (105, .goto 14, 108), (108, .iload 4, 110), (110, .ireturn, 111)]
def k_7 : List (Nat × Instr × Nat) := [(0, .aload_n 0, 1), (1, .getfield 25, 4), (4, .getfield 107, 7), (7, .iload_n 1, 8), (8, .aload_n 0, 9), (9, .getfield 25, 12), (12, .getfield 110, 15), (15, .iload_n 2, 16), (16, .iaload, 17), (17, .iastore, 18), (18, .aload_n 0, 19), (19, .getfield 25, 22), (22, .getfield 111, 25), (25, .iload_n 1, 26), (26, .iload_n 3, 27), (27, .iastore, 28), (28, .aload_n 0, 29), (29, .getfield 25, 32), (32, .getfield 67, 35), (35, .iload_n 2, 36), (36, .iaload, 37), (37, .istore 4, 39), (39, .iload 4, 41), (41, .ifCond .ne 45, 44), (44, .return_, 45), (45, .aload_n 0, 46), (46, .getfield 25, 49), (49, .getfield 67, 52), (52, .iload_n 1, 53), (53, .iaload, 54), (54, .ifCond .ne 73, 57), (57, .aload_n 0, 58), (58, .getfield 25, 61), (61, .getfield 67, 64), (64, .iload_n 1, 65), (65, .aload_n 0, 66), (66, .getfield 25, 69), (69, .invokevirtual 114, 72), (72, .iastore, 73), (73, .aload_n 0, 74), (74, .iload 4, 76), (76, .aload_n 0, 77), (77, .getfield 25, 80), (80, .getfield 67, 83), (83, .iload_n 1, 84), (84, .iaload, 85), (85, .invokevirtual 118, 88), (88, .iconst 0, 89), (89, .istore 5, 91), (91, .iload 5, 93), (93, .aload_n 0, 94), (94, .getfield 34, 97), (97, .getfield 95, 100), (100, .if_icmp .ge 194, 103), (103, .aload_n 0, 104), (104, .getfield 25, 107), (107, .aload_n 0, 108), (108, .getfield 34, 111), (111, .getfield 98, 114), (114, .iload 5, 116), (116, .iaload, 117), (117, .invokevirtual 101, 120), (120, .istore 6, 122), (122, .iload 6, 124), (124, .ifCond .lt 188, 127), (127, .iload 6, 129), (129, .iload_n 2, 130), (130, .if_icmp .eq 188, 133), (133, .aload_n 0, 134), (134, .getfield 25, 137), (137, .iload 6, 139), (139, .iload_n 3, 140), (140, .invokevirtual 104, 143), (143, .ifCond .eq 188, 146), (146, .aload_n 0, 147), (147, .getfield 25, 150), (150, .iload 6, 152), (152, .iload_n 3, 153), (153, .invokevirtual 38, 156), (156, .ifCond .ge 188, 159), (159, .aload_n 0, 160), (160, .iload_n 1, 161), (161, .iload 6, 163), (163, .iload 5, 165), (165, .aload_n 0, 166), (166, .getfield 34, 169), (169, .getfield 122, 172), (172, .iload 5, 174), (174, .iaload, 175), (175, .iload 4, 177), (177, .if_icmp .ne 184, 180), (180, .iconst 1, 181), (181, .goto 185, 184), (184, .iconst 0, 185), (185, .invokevirtual 123, 188), (188, .iinc 5 1, 191), (191, .goto 91, 194), (194, .return_, 195)]
def k_8 : List (Nat × Instr × Nat) := [(0, .aload_n 0, 1), (1, .iconst 0, 2), (2, .putfield 18, 5), (5, .aload_n 0, 6), (6, .getfield 34, 9), (9, .iconst 0, 10), (10, .invokevirtual 127, 13), (13, .istore_n 3, 14), (14, .iload_n 3, 15), (15, .ifCond .eq 84, 18), (18, .aload_n 0, 19), (19, .getfield 18, 22), (22, .bipush 40, 24), (24, .if_icmp .ge 84, 27), (27, .aload_n 0, 28), (28, .getfield 9, 31), (31, .aload_n 0, 32), (32, .getfield 18, 35), (35, .iload_n 3, 36), (36, .iastore, 37), (37, .aload_n 0, 38), (38, .getfield 15, 41), (41, .aload_n 0, 42), (42, .getfield 18, 45), (45, .iload_n 3, 46), (46, .iload_n 1, 47), (47, .if_icmp .ne 54, 50), (50, .iload_n 2, 51), (51, .goto 61, 54), (54, .aload_n 0, 55), (55, .getfield 25, 58), (58, .invokevirtual 114, 61), (61, .iastore, 62), (62, .aload_n 0, 63), (63, .dup, 64), (64, .getfield 18, 67), (67, .iconst 1, 68), (68, .iadd, 69), (69, .putfield 18, 72), (72, .aload_n 0, 73), (73, .getfield 34, 76), (76, .iload_n 3, 77), (77, .invokevirtual 127, 80), (80, .istore_n 3, 81), (81, .goto 14, 84), (84, .return_, 85)]
def k_9 : List (Nat × Instr × Nat) := [(0, .iconst 0, 1), (1, .istore_n 2, 2), (2, .iload_n 2, 3), (3, .aload_n 0, 4), (4, .getfield 18, 7), (7, .if_icmp .ge 33, 10), (10, .aload_n 0, 11), (11, .getfield 9, 14), (14, .iload_n 2, 15), (15, .iaload, 16), (16, .iload_n 1, 17), (17, .if_icmp .ne 27, 20), (20, .aload_n 0, 21), (21, .getfield 15, 24), (24, .iload_n 2, 25), (25, .iaload, 26), (26, .ireturn, 27), (27, .iinc 2 1, 30), (30, .goto 2, 33), (33, .iconst 0, 34), (34, .ireturn, 35)]
def k_10 : List (Nat × Instr × Nat) := [(0, .aload_n 0, 1), (1, .getfield 25, 4), (4, .aload_n 0, 5), (5, .getfield 25, 8), (8, .getfield 51, 11), (11, .iload_n 2, 12), (12, .iaload, 13), (13, .aload_n 0, 14), (14, .getfield 25, 17), (17, .getfield 64, 20), (20, .iload_n 1, 21), (21, .iaload, 22), (22, .aload_n 0, 23), (23, .getfield 25, 26), (26, .getfield 130, 29), (29, .iload_n 1, 30), (30, .iaload, 31), (31, .invokevirtual 54, 34), (34, .istore 5, 36), (36, .iload 5, 38), (38, .ifCond .ge 42, 41), (41, .return_, 42), (42, .aload_n 0, 43), (43, .getfield 25, 46), (46, .getfield 107, 49), (49, .iload 5, 51), (51, .aload_n 0, 52), (52, .getfield 25, 55), (55, .getfield 110, 58), (58, .iload_n 2, 59), (59, .iaload, 60), (60, .iastore, 61), (61, .aload_n 0, 62), (62, .getfield 25, 65), (65, .getfield 111, 68), (68, .iload 5, 70), (70, .aload_n 0, 71), (71, .getfield 25, 74), (74, .getfield 111, 77), (77, .iload_n 1, 78), (78, .iaload, 79), (79, .iastore, 80), (80, .iload 4, 82), (82, .ifCond .eq 126, 85), (85, .aload_n 0, 86), (86, .getfield 25, 89), (89, .getfield 67, 92), (92, .iload 5, 94), (94, .aload_n 0, 95), (95, .getfield 25, 98), (98, .getfield 67, 101), (101, .iload_n 1, 102), (102, .iaload, 103), (103, .iastore, 104), (104, .aload_n 0, 105), (105, .getfield 25, 108), (108, .getfield 70, 111), (111, .iload 5, 113), (113, .aload_n 0, 114), (114, .getfield 25, 117), (117, .getfield 70, 120), (120, .iload_n 1, 121), (121, .iaload, 122), (122, .iastore, 123), (123, .goto 172, 126), (126, .aload_n 0, 127), (127, .getfield 25, 130), (130, .getfield 67, 133), (133, .iload 5, 135), (135, .aload_n 0, 136), (136, .aload_n 0, 137), (137, .getfield 34, 140), (140, .getfield 122, 143), (143, .iload_n 3, 144), (144, .iaload, 145), (145, .invokevirtual 133, 148), (148, .iastore, 149), (149, .aload_n 0, 150), (150, .getfield 25, 153), (153, .getfield 70, 156), (156, .iload 5, 158), (158, .aload_n 0, 159), (159, .aload_n 0, 160), (160, .getfield 34, 163), (163, .getfield 136, 166), (166, .iload_n 3, 167), (167, .iaload, 168), (168, .invokevirtual 133, 171), (171, .iastore, 172), (172, .return_, 173)]
def k_11 : List (Nat × Instr × Nat) := [(0, .aload_n 0, 1), (1, .getfield 25, 4), (4, .getfield 76, 7), (7, .iload_n 1, 8), (8, .iaload, 9), (9, .ifCond .eq 15, 12), (12, .bipush (-3), 14), (14, .ireturn, 15), (15, .aload_n 0, 16), (16, .getfield 25, 19), (19, .iload_n 1, 20), (20, .invokevirtual 79, 23), (23, .istore_n 2, 24), (24, .iload_n 2, 25), (25, .ifCond .ge 31, 28), (28, .bipush (-4), 30), (30, .ireturn, 31), (31, .aload_n 0, 32), (32, .getfield 25, 35), (35, .iload_n 1, 36), (36, .invokevirtual 83, 39), (39, .ifCond .eq 45, 42), (42, .bipush (-5), 44), (44, .ireturn, 45), (45, .aload_n 0, 46), (46, .getfield 34, 49), (49, .iload_n 2, 50), (50, .invokevirtual 91, 53), (53, .aload_n 0, 54), (54, .getfield 25, 57), (57, .getfield 110, 60), (60, .iload_n 2, 61), (61, .iaload, 62), (62, .istore_n 3, 63), (63, .aload_n 0, 64), (64, .getfield 25, 67), (67, .getfield 111, 70), (70, .iload_n 1, 71), (71, .iaload, 72), (72, .istore 4, 74), (74, .aload_n 0, 75), (75, .getfield 25, 78), (78, .getfield 64, 81), (81, .iload_n 1, 82), (82, .iaload, 83), (83, .istore 5, 85), (85, .aload_n 0, 86), (86, .getfield 25, 89), (89, .getfield 130, 92), (92, .iload_n 1, 93), (93, .iaload, 94), (94, .istore 6, 96), (96, .aload_n 0, 97), (97, .getfield 25, 100), (100, .iload_n 1, 101), (101, .invokevirtual 137, 104), (104, .iconst 1, 105), (105, .istore 7, 107), (107, .iconst 0, 108), (108, .istore 8, 110), (110, .iload 8, 112), (112, .aload_n 0, 113), (113, .getfield 34, 116), (116, .getfield 95, 119), (119, .if_icmp .ge 167, 122), (122, .aload_n 0, 123), (123, .getfield 34, 126), (126, .getfield 98, 129), (129, .iload 8, 131), (131, .iaload, 132), (132, .iload_n 3, 133), (133, .if_icmp .eq 161, 136), (136, .iload 7, 138), (138, .aload_n 0, 139), (139, .aload_n 0, 140), (140, .getfield 34, 143), (143, .getfield 98, 146), (146, .iload 8, 148), (148, .iaload, 149), (149, .iload 4, 151), (151, .iload 5, 153), (153, .iload 6, 155), (155, .invokevirtual 140, 158), (158, .iadd, 159), (159, .istore 7, 161), (161, .iinc 8 1, 164), (164, .goto 110, 167), (167, .iload 7, 169), (169, .ireturn, 170)]
def k_12 : List (Nat × Instr × Nat) := [(0, .aload_n 0, 1), (1, .getfield 25, 4), (4, .iload_n 1, 5), (5, .invokevirtual 101, 8), (8, .istore 5, 10), (10, .iload 5, 12), (12, .ifCond .ge 17, 15), (15, .iconst 0, 16), (16, .ireturn, 17), (17, .aload_n 0, 18), (18, .getfield 25, 21), (21, .iload 5, 23), (23, .iload_n 2, 24), (24, .invokevirtual 38, 27), (27, .istore 6, 29), (29, .iload 6, 31), (31, .ifCond .lt 67, 34), (34, .aload_n 0, 35), (35, .getfield 25, 38), (38, .getfield 64, 41), (41, .iload 6, 43), (43, .iaload, 44), (44, .iload_n 3, 45), (45, .if_icmp .ne 67, 48), (48, .aload_n 0, 49), (49, .getfield 25, 52), (52, .getfield 130, 55), (55, .iload 6, 57), (57, .iaload, 58), (58, .iload 4, 60), (60, .if_icmp .ne 67, 63), (63, .iconst 1, 64), (64, .goto 68, 67), (67, .iconst 0, 68), (68, .istore 7, 70), (70, .iload 7, 72), (72, .ifCond .eq 100, 75), (75, .aload_n 0, 76), (76, .getfield 25, 79), (79, .getfield 76, 82), (82, .iload 6, 84), (84, .iaload, 85), (85, .ifCond .ne 100, 88), (88, .aload_n 0, 89), (89, .getfield 25, 92), (92, .iload 6, 94), (94, .invokevirtual 83, 97), (97, .ifCond .eq 102, 100), (100, .iconst 0, 101), (101, .ireturn, 102), (102, .aload_n 0, 103), (103, .getfield 25, 106), (106, .iload 6, 108), (108, .invokevirtual 137, 111), (111, .iconst 1, 112), (112, .ireturn, 113)]
def k_13 : List (Nat × Instr × Nat) := [(0, .aload_n 0, 1), (1, .getfield 25, 4), (4, .getfield 67, 7), (7, .iload_n 1, 8), (8, .iaload, 9), (9, .istore_n 3, 10), (10, .iload_n 2, 11), (11, .iconst 1, 12), (12, .if_icmp .ne 42, 15), (15, .aload_n 0, 16), (16, .getfield 25, 19), (19, .getfield 67, 22), (22, .iload_n 1, 23), (23, .iload_n 3, 24), (24, .ifCond .ne 37, 27), (27, .aload_n 0, 28), (28, .getfield 25, 31), (31, .invokevirtual 114, 34), (34, .goto 38, 37), (37, .iload_n 3, 38), (38, .iastore, 39), (39, .goto 103, 42), (42, .iload_n 2, 43), (43, .iconst 2, 44), (44, .if_icmp .ne 83, 47), (47, .iload_n 3, 48), (48, .ifCond .eq 70, 51), (51, .aload_n 0, 52), (52, .iload_n 3, 53), (53, .iload_n 1, 54), (54, .invokevirtual 144, 57), (57, .ifCond .eq 70, 60), (60, .aload_n 0, 61), (61, .getfield 25, 64), (64, .getfield 70, 67), (67, .iload_n 1, 68), (68, .iload_n 3, 69), (69, .iastore, 70), (70, .aload_n 0, 71), (71, .getfield 25, 74), (74, .getfield 67, 77), (77, .iload_n 1, 78), (78, .iconst 0, 79), (79, .iastore, 80), (80, .goto 103, 83), (83, .aload_n 0, 84), (84, .getfield 25, 87), (87, .getfield 67, 90), (90, .iload_n 1, 91), (91, .iconst 0, 92), (92, .iastore, 93), (93, .aload_n 0, 94), (94, .getfield 25, 97), (97, .getfield 70, 100), (100, .iload_n 1, 101), (101, .iconst 0, 102), (102, .iastore, 103), (103, .aload_n 0, 104), (104, .getfield 25, 107), (107, .getfield 61, 110), (110, .iload_n 1, 111), (111, .iload_n 2, 112), (112, .iconst 3, 113), (113, .if_icmp .ne 120, 116), (116, .iconst 1, 117), (117, .goto 121, 120), (120, .iconst 0, 121), (121, .iastore, 122), (122, .aload_n 0, 123), (123, .getfield 25, 126), (126, .getfield 67, 129), (129, .iload_n 1, 130), (130, .iaload, 131), (131, .ireturn, 132)]
def k_14 : List (Nat × Instr × Nat) := [(0, .iconst 0, 1), (1, .istore_n 3, 2), (2, .iload_n 3, 3), (3, .aload_n 0, 4), (4, .getfield 25, 7), (7, .getfield 48, 10), (10, .if_icmp .ge 39, 13), (13, .iload_n 3, 14), (14, .iload_n 2, 15), (15, .if_icmp .eq 33, 18), (18, .aload_n 0, 19), (19, .getfield 25, 22), (22, .getfield 67, 25), (25, .iload_n 3, 26), (26, .iaload, 27), (27, .iload_n 1, 28), (28, .if_icmp .ne 33, 31), (31, .iconst 1, 32), (32, .ireturn, 33), (33, .iinc 3 1, 36), (36, .goto 2, 39), (39, .iconst 0, 40), (40, .ireturn, 41)]
def k_15 : List (Nat × Instr × Nat) := [(0, .aload_n 0, 1), (1, .getfield 25, 4), (4, .getfield 48, 7), (7, .istore_n 3, 8), (8, .iconst 0, 9), (9, .istore 4, 11), (11, .iconst 0, 12), (12, .istore 5, 14), (14, .iload 5, 16), (16, .iload_n 3, 17), (17, .if_icmp .ge 50, 20), (20, .iload 4, 22), (22, .aload_n 0, 23), (23, .getfield 25, 26), (26, .getfield 51, 29), (29, .iload 5, 31), (31, .iaload, 32), (32, .iload_n 1, 33), (33, .if_icmp .ne 40, 36), (36, .iconst 1, 37), (37, .goto 41, 40), (40, .iconst 0, 41), (41, .iadd, 42), (42, .istore 4, 44), (44, .iinc 5 1, 47), (47, .goto 14, 50), (50, .aload_n 0, 51), (51, .getfield 25, 54), (54, .getfield 147, 57), (57, .iconst 4, 58), (58, .if_icmp .ge 70, 61), (61, .iload_n 3, 62), (62, .iload 4, 64), (64, .iadd, 65), (65, .bipush 40, 67), (67, .if_icmp .le 73, 70), (70, .bipush (-8), 72), (72, .ireturn, 73), (73, .aload_n 0, 74), (74, .getfield 25, 77), (77, .getfield 147, 80), (80, .istore 5, 82), (82, .aload_n 0, 83), (83, .getfield 25, 86), (86, .dup, 87), (87, .getfield 147, 90), (90, .iconst 1, 91), (91, .iadd, 92), (92, .putfield 147, 95), (95, .iconst 0, 96), (96, .istore 6, 98), (98, .iload 6, 100), (100, .iload_n 3, 101), (101, .if_icmp .ge 133, 104), (104, .aload_n 0, 105), (105, .getfield 25, 108), (108, .getfield 51, 111), (111, .iload 6, 113), (113, .iaload, 114), (114, .iload_n 1, 115), (115, .if_icmp .ne 127, 118), (118, .aload_n 0, 119), (119, .iload 6, 121), (121, .iload 5, 123), (123, .iload_n 2, 124), (124, .invokevirtual 150, 127), (127, .iinc 6 1, 130), (130, .goto 98, 133), (133, .iload_n 3, 134), (134, .istore 6, 136), (136, .iload 6, 138), (138, .aload_n 0, 139), (139, .getfield 25, 142), (142, .getfield 48, 145), (145, .if_icmp .ge 199, 148), (148, .aload_n 0, 149), (149, .getfield 25, 152), (152, .aload_n 0, 153), (153, .getfield 25, 156), (156, .getfield 107, 159), (159, .iload 6, 161), (161, .iaload, 162), (162, .invokevirtual 101, 165), (165, .istore 7, 167), (167, .aload_n 0, 168), (168, .getfield 25, 171), (171, .getfield 107, 174), (174, .iload 6, 176), (176, .iload 7, 178), (178, .ifCond .ge 185, 181), (181, .iconst (-1), 182), (182, .goto 192, 185), (185, .aload_n 0, 186), (186, .getfield 22, 189), (189, .iload 7, 191), (191, .iaload, 192), (192, .iastore, 193), (193, .iinc 6 1, 196), (196, .goto 136, 199), (199, .iload 5, 201), (201, .ireturn, 202)]
def k_16 : List (Nat × Instr × Nat) := [(0, .aload_n 0, 1), (1, .getfield 25, 4), (4, .iload_n 2, 5), (5, .aload_n 0, 6), (6, .getfield 25, 9), (9, .getfield 64, 12), (12, .iload_n 1, 13), (13, .iaload, 14), (14, .aload_n 0, 15), (15, .getfield 25, 18), (18, .getfield 130, 21), (21, .iload_n 1, 22), (22, .iaload, 23), (23, .invokevirtual 54, 26), (26, .istore 4, 28), (28, .iload 4, 30), (30, .ifCond .ge 34, 33), (33, .return_, 34), (34, .aload_n 0, 35), (35, .getfield 22, 38), (38, .iload_n 1, 39), (39, .aload_n 0, 40), (40, .getfield 25, 43), (43, .getfield 110, 46), (46, .iload 4, 48), (48, .iaload, 49), (49, .iastore, 50), (50, .aload_n 0, 51), (51, .getfield 25, 54), (54, .getfield 107, 57), (57, .iload 4, 59), (59, .aload_n 0, 60), (60, .getfield 25, 63), (63, .getfield 107, 66), (66, .iload_n 1, 67), (67, .iaload, 68), (68, .iastore, 69), (69, .aload_n 0, 70), (70, .getfield 25, 73), (73, .getfield 111, 76), (76, .iload 4, 78), (78, .aload_n 0, 79), (79, .getfield 25, 82), (82, .getfield 111, 85), (85, .iload_n 1, 86), (86, .iaload, 87), (87, .iastore, 88), (88, .aload_n 0, 89), (89, .getfield 25, 92), (92, .getfield 61, 95), (95, .iload 4, 97), (97, .aload_n 0, 98), (98, .getfield 25, 101), (101, .getfield 61, 104), (104, .iload_n 1, 105), (105, .iaload, 106), (106, .iastore, 107), (107, .aload_n 0, 108), (108, .getfield 25, 111), (111, .getfield 76, 114), (114, .iload 4, 116), (116, .iload_n 3, 117), (117, .ifCond .eq 124, 120), (120, .iconst 1, 121), (121, .goto 133, 124), (124, .aload_n 0, 125), (125, .getfield 25, 128), (128, .getfield 76, 131), (131, .iload_n 1, 132), (132, .iaload, 133), (133, .iastore, 134), (134, .iload_n 3, 135), (135, .ifCond .eq 154, 138), (138, .aload_n 0, 139), (139, .getfield 25, 142), (142, .getfield 67, 145), (145, .iload_n 1, 146), (146, .iaload, 147), (147, .ifCond .eq 154, 150), (150, .iconst 1, 151), (151, .goto 155, 154), (154, .iconst 0, 155), (155, .istore 5, 157), (157, .aload_n 0, 158), (158, .getfield 25, 161), (161, .getfield 67, 164), (164, .iload 4, 166), (166, .iload_n 3, 167), (167, .ifCond .eq 174, 170), (170, .iconst 0, 171), (171, .goto 183, 174), (174, .aload_n 0, 175), (175, .getfield 25, 178), (178, .getfield 67, 181), (181, .iload_n 1, 182), (182, .iaload, 183), (183, .iastore, 184), (184, .aload_n 0, 185), (185, .getfield 25, 188), (188, .getfield 70, 191), (191, .iload 4, 193), (193, .iload 5, 195), (195, .ifCond .eq 210, 198), (198, .aload_n 0, 199), (199, .getfield 25, 202), (202, .getfield 67, 205), (205, .iload_n 1, 206), (206, .iaload, 207), (207, .goto 219, 210), (210, .aload_n 0, 211), (211, .getfield 25, 214), (214, .getfield 70, 217), (217, .iload_n 1, 218), (218, .iaload, 219), (219, .iastore, 220), (220, .return_, 221)]
def k_17 : List (Nat × Instr × Nat) := [(0, .aload_n 0, 1), (1, .getfield 25, 4), (4, .dup, 5), (5, .getfield 147, 8), (8, .iconst 1, 9), (9, .isub, 10), (10, .putfield 147, 13), (13, .aload_n 0, 14), (14, .getfield 25, 17), (17, .getfield 48, 20), (20, .iconst 1, 21), (21, .isub, 22), (22, .istore_n 1, 23), (23, .iload_n 1, 24), (24, .ifCond .lt 60, 27), (27, .aload_n 0, 28), (28, .getfield 25, 31), (31, .getfield 51, 34), (34, .iload_n 1, 35), (35, .iaload, 36), (36, .aload_n 0, 37), (37, .getfield 25, 40), (40, .getfield 147, 43), (43, .if_icmp .ne 54, 46), (46, .aload_n 0, 47), (47, .getfield 25, 50), (50, .iload_n 1, 51), (51, .invokevirtual 137, 54), (54, .iinc 1 (-1), 57), (57, .goto 23, 60), (60, .aload_n 0, 61), (61, .getfield 25, 64), (64, .getfield 48, 67), (67, .ireturn, 68)]
def k_18 : List (Nat × Instr × Nat) := [(0, .aload_n 0, 1), (1, .invokespecial 3, 4), (4, .aload_n 0, 5), (5, .bipush 40, 7), (7, .newarray .boolean, 9), (9, .putfield 9, 12), (12, .aload_n 0, 13), (13, .bipush 40, 15), (15, .newarray .int, 17), (17, .putfield 15, 20), (20, .aload_n 0, 21), (21, .iconst 0, 22), (22, .putfield 19, 25), (25, .aload_n 0, 26), (26, .bipush 40, 28), (28, .newarray .int, 30), (30, .putfield 23, 33), (33, .aload_n 0, 34), (34, .bipush 40, 36), (36, .newarray .int, 38), (38, .putfield 26, 41), (41, .aload_n 0, 42), (42, .bipush 40, 44), (44, .newarray .int, 46), (46, .putfield 29, 49), (49, .aload_n 0, 50), (50, .iconst 0, 51), (51, .putfield 32, 54), (54, .aload_n 0, 55), (55, .aload_n 1, 56), (56, .putfield 35, 59), (59, .return_, 60)]
def k_19 : List (Nat × Instr × Nat) := [(0, .aload_n 0, 1), (1, .iconst 0, 2), (2, .putfield 32, 5), (5, .aload_n 0, 6), (6, .getfield 35, 9), (9, .getfield 39, 12), (12, .iload_n 1, 13), (13, .iaload, 14), (14, .ifCond .ne 18, 17), (17, .return_, 18), (18, .iconst 0, 19), (19, .istore_n 2, 20), (20, .iload_n 2, 21), (21, .aload_n 0, 22), (22, .getfield 35, 25), (25, .getfield 42, 28), (28, .if_icmp .ge 44, 31), (31, .aload_n 0, 32), (32, .getfield 9, 35), (35, .iload_n 2, 36), (36, .iconst 0, 37), (37, .bastore, 38), (38, .iinc 2 1, 41), (41, .goto 20, 44), (44, .aload_n 0, 45), (45, .iconst 0, 46), (46, .putfield 19, 49), (49, .aload_n 0, 50), (50, .aload_n 0, 51), (51, .getfield 35, 54), (54, .getfield 39, 57), (57, .iload_n 1, 58), (58, .iaload, 59), (59, .invokevirtual 45, 62), (62, .iconst 0, 63), (63, .istore_n 2, 64), (64, .iload_n 2, 65), (65, .aload_n 0, 66), (66, .getfield 19, 69), (69, .if_icmp .ge 102, 72), (72, .iload_n 2, 73), (73, .bipush 40, 75), (75, .if_icmp .ge 102, 78), (78, .aload_n 0, 79), (79, .aload_n 0, 80), (80, .getfield 35, 83), (83, .getfield 39, 86), (86, .aload_n 0, 87), (87, .getfield 15, 90), (90, .iload_n 2, 91), (91, .iaload, 92), (92, .iaload, 93), (93, .invokevirtual 45, 96), (96, .iinc 2 1, 99), (99, .goto 64, 102), (102, .iconst 0, 103), (103, .istore_n 2, 104), (104, .iload_n 2, 105), (105, .aload_n 0, 106), (106, .getfield 35, 109), (109, .getfield 42, 112), (112, .if_icmp .ge 135, 115), (115, .aload_n 0, 116), (116, .getfield 9, 119), (119, .iload_n 2, 120), (120, .baload, 121), (121, .ifCond .eq 129, 124), (124, .aload_n 0, 125), (125, .iload_n 2, 126), (126, .invokevirtual 49, 129), (129, .iinc 2 1, 132), (132, .goto 104, 135), (135, .return_, 136)]
def k_20 : List (Nat × Instr × Nat) := [(0, .iload_n 1, 1), (1, .ifCond .ne 5, 4), (4, .return_, 5), (5, .iconst 0, 6), (6, .istore_n 2, 7), (7, .iload_n 2, 8), (8, .aload_n 0, 9), (9, .getfield 35, 12), (12, .getfield 42, 15), (15, .if_icmp .ge 105, 18), (18, .aload_n 0, 19), (19, .getfield 19, 22), (22, .bipush 40, 24), (24, .if_icmp .ge 105, 27), (27, .aload_n 0, 28), (28, .getfield 35, 31), (31, .getfield 39, 34), (34, .iload_n 2, 35), (35, .iaload, 36), (36, .iload_n 1, 37), (37, .if_icmp .eq 53, 40), (40, .aload_n 0, 41), (41, .getfield 35, 44), (44, .getfield 52, 47), (47, .iload_n 2, 48), (48, .iaload, 49), (49, .iload_n 1, 50), (50, .if_icmp .ne 57, 53), (53, .iconst 1, 54), (54, .goto 58, 57), (57, .iconst 0, 58), (58, .istore_n 3, 59), (59, .iload_n 3, 60), (60, .ifCond .eq 99, 63), (63, .aload_n 0, 64), (64, .getfield 9, 67), (67, .iload_n 2, 68), (68, .baload, 69), (69, .ifCond .ne 99, 72), (72, .aload_n 0, 73), (73, .getfield 9, 76), (76, .iload_n 2, 77), (77, .iconst 1, 78), (78, .bastore, 79), (79, .aload_n 0, 80), (80, .getfield 15, 83), (83, .aload_n 0, 84), (84, .getfield 19, 87), (87, .iload_n 2, 88), (88, .iastore, 89), (89, .aload_n 0, 90), (90, .dup, 91), (91, .getfield 19, 94), (94, .iconst 1, 95), (95, .iadd, 96), (96, .putfield 19, 99), (99, .iinc 2 1, 102), (102, .goto 7, 105), (105, .return_, 106)]
def k_21 : List (Nat × Instr × Nat) := [(0, .aload_n 0, 1), (1, .getfield 32, 4), (4, .bipush 40, 6), (6, .if_icmp .ge 73, 9), (9, .aload_n 0, 10), (10, .getfield 23, 13), (13, .aload_n 0, 14), (14, .getfield 32, 17), (17, .aload_n 0, 18), (18, .getfield 35, 21), (21, .getfield 53, 24), (24, .iload_n 1, 25), (25, .iaload, 26), (26, .iastore, 27), (27, .aload_n 0, 28), (28, .getfield 26, 31), (31, .aload_n 0, 32), (32, .getfield 32, 35), (35, .aload_n 0, 36), (36, .getfield 35, 39), (39, .getfield 39, 42), (42, .iload_n 1, 43), (43, .iaload, 44), (44, .iastore, 45), (45, .aload_n 0, 46), (46, .getfield 29, 49), (49, .aload_n 0, 50), (50, .getfield 32, 53), (53, .aload_n 0, 54), (54, .getfield 35, 57), (57, .getfield 52, 60), (60, .iload_n 1, 61), (61, .iaload, 62), (62, .iastore, 63), (63, .aload_n 0, 64), (64, .dup, 65), (65, .getfield 32, 68), (68, .iconst 1, 69), (69, .iadd, 70), (70, .putfield 32, 73), (73, .return_, 74)]
def k_22 : List (Nat × Instr × Nat) := [(0, .iconst 0, 1), (1, .istore_n 2, 2), (2, .iconst 0, 3), (3, .istore_n 3, 4), (4, .iload_n 3, 5), (5, .aload_n 0, 6), (6, .getfield 32, 9), (9, .if_icmp .ge 49, 12), (12, .aload_n 0, 13), (13, .getfield 26, 16), (16, .iload_n 3, 17), (17, .iaload, 18), (18, .iload_n 1, 19), (19, .if_icmp .le 43, 22), (22, .iload_n 2, 23), (23, .ifCond .eq 36, 26), (26, .aload_n 0, 27), (27, .getfield 26, 30), (30, .iload_n 3, 31), (31, .iaload, 32), (32, .iload_n 2, 33), (33, .if_icmp .ge 43, 36), (36, .aload_n 0, 37), (37, .getfield 26, 40), (40, .iload_n 3, 41), (41, .iaload, 42), (42, .istore_n 2, 43), (43, .iinc 3 1, 46), (46, .goto 4, 49), (49, .iload_n 2, 50), (50, .ireturn, 51)]
def k_23 : List (Nat × Instr × Nat) := [(0, .aload_n 0, 1), (1, .invokespecial 3, 4), (4, .aload_n 0, 5), (5, .sipush 600, 8), (8, .newarray .byte, 10), (10, .putfield 9, 13), (13, .aload_n 0, 14), (14, .iconst 0, 15), (15, .putfield 15, 18), (18, .aload_n 0, 19), (19, .iconst (-1), 20), (20, .putfield 19, 23), (23, .aload_n 0, 24), (24, .iconst 0, 25), (25, .putfield 22, 28), (28, .aload_n 0, 29), (29, .iconst 0, 30), (30, .putfield 25, 33), (33, .aload_n 0, 34), (34, .iconst 0, 35), (35, .putfield 28, 38), (38, .aload_n 0, 39), (39, .iconst 0, 40), (40, .putfield 31, 43), (43, .aload_n 0, 44), (44, .iconst (-1), 45), (45, .putfield 34, 48), (48, .return_, 49)]
def k_24 : List (Nat × Instr × Nat) := [(0, .aload_n 0, 1), (1, .getfield 15, 4), (4, .iload_n 1, 5), (5, .iadd, 6), (6, .sipush 600, 9), (9, .if_icmp .gt 16, 12), (12, .iconst 1, 13), (13, .goto 17, 16), (16, .iconst 0, 17), (17, .ireturn, 18)]
def k_25 : List (Nat × Instr × Nat) := [(0, .bipush 24, 2), (2, .istore_n 2, 3), (3, .iload_n 2, 4), (4, .ifCond .lt 46, 7), (7, .aload_n 0, 8), (8, .getfield 15, 11), (11, .sipush 600, 14), (14, .if_icmp .ge 46, 17), (17, .aload_n 0, 18), (18, .getfield 9, 21), (21, .aload_n 0, 22), (22, .getfield 15, 25), (25, .iload_n 1, 26), (26, .iload_n 2, 27), (27, .ishr, 28), (28, .i2b, 29), (29, .bastore, 30), (30, .aload_n 0, 31), (31, .dup, 32), (32, .getfield 15, 35), (35, .iconst 1, 36), (36, .iadd, 37), (37, .putfield 15, 40), (40, .iinc 2 (-8), 43), (43, .goto 3, 46), (46, .return_, 47)]
def k_26 : List (Nat × Instr × Nat) := [(0, .aload_n 0, 1), (1, .iconst 0, 2), (2, .putfield 15, 5), (5, .aload_n 0, 6), (6, .iconst 0, 7), (7, .iload_n 1, 8), (8, .sipush 600, 11), (11, .invokestatic 37, 14), (14, .invokestatic 43, 17), (17, .putfield 28, 20), (20, .aload_n 0, 21), (21, .iconst 0, 22), (22, .putfield 25, 25), (25, .aload_n 0, 26), (26, .iconst 0, 27), (27, .putfield 31, 30), (30, .aload_n 0, 31), (31, .iconst (-1), 32), (32, .putfield 34, 35), (35, .aload_n 0, 36), (36, .invokevirtual 46, 39), (39, .return_, 40)]
def k_27 : List (Nat × Instr × Nat) := [(0, .aload_n 0, 1), (1, .getfield 25, 4), (4, .aload_n 0, 5), (5, .getfield 28, 8), (8, .if_icmp .ge 38, 11), (11, .aload_n 0, 12), (12, .getfield 9, 15), (15, .aload_n 0, 16), (16, .getfield 25, 19), (19, .baload, 20), (20, .bipush 32, 22), (22, .if_icmp .ne 38, 25), (25, .aload_n 0, 26), (26, .dup, 27), (27, .getfield 25, 30), (30, .iconst 1, 31), (31, .iadd, 32), (32, .putfield 25, 35), (35, .goto 0, 38), (38, .aload_n 0, 39), (39, .aload_n 0, 40), (40, .getfield 25, 43), (43, .putfield 22, 46), (46, .aload_n 0, 47), (47, .getfield 25, 50), (50, .aload_n 0, 51), (51, .getfield 28, 54), (54, .if_icmp .lt 65, 57), (57, .aload_n 0, 58), (58, .iconst (-1), 59), (59, .putfield 19, 62), (62, .goto 154, 65), (65, .aload_n 0, 66), (66, .aload_n 0, 67), (67, .getfield 9, 70), (70, .aload_n 0, 71), (71, .getfield 25, 74), (74, .baload, 75), (75, .invokevirtual 49, 78), (78, .ifCond .eq 127, 81), (81, .aload_n 0, 82), (82, .bipush (-2), 84), (84, .putfield 19, 87), (87, .aload_n 0, 88), (88, .getfield 25, 91), (91, .aload_n 0, 92), (92, .getfield 28, 95), (95, .if_icmp .ge 154, 98), (98, .aload_n 0, 99), (99, .aload_n 0, 100), (100, .getfield 9, 103), (103, .aload_n 0, 104), (104, .getfield 25, 107), (107, .baload, 108), (108, .invokevirtual 49, 111), (111, .ifCond .eq 154, 114), (114, .aload_n 0, 115), (115, .dup, 116), (116, .getfield 25, 119), (119, .iconst 1, 120), (120, .iadd, 121), (121, .putfield 25, 124), (124, .goto 87, 127), (127, .aload_n 0, 128), (128, .aload_n 0, 129), (129, .getfield 9, 132), (132, .aload_n 0, 133), (133, .getfield 25, 136), (136, .baload, 137), (137, .sipush 255, 140), (140, .iand, 141), (141, .putfield 19, 144), (144, .aload_n 0, 145), (145, .dup, 146), (146, .getfield 25, 149), (149, .iconst 1, 150), (150, .iadd, 151), (151, .putfield 25, 154), (154, .return_, 155)]
def k_28 : List (Nat × Instr × Nat) := [(0, .iload_n 1, 1), (1, .bipush 97, 3), (3, .if_icmp .lt 16, 6), (6, .iload_n 1, 7), (7, .bipush 122, 9), (9, .if_icmp .gt 16, 12), (12, .iconst 1, 13), (13, .goto 17, 16), (16, .iconst 0, 17), (17, .ireturn, 18)]
def k_29 : List (Nat × Instr × Nat) := [(0, .aload_n 0, 1), (1, .iload_n 1, 2), (2, .putfield 31, 5), (5, .aload_n 0, 6), (6, .aload_n 0, 7), (7, .getfield 22, 10), (10, .putfield 34, 13), (13, .iconst 0, 14), (14, .ireturn, 15)]
def k_30 : List (Nat × Instr × Nat) := [(0, .aload_n 0, 1), (1, .getfield 19, 4), (4, .iconst (-1), 5), (5, .if_icmp .eq 17, 8), (8, .aload_n 0, 9), (9, .bipush (-12), 11), (11, .invokevirtual 53, 14), (14, .ifCond .eq 21, 17), (17, .iconst 1, 18), (18, .goto 22, 21), (21, .iconst 0, 22), (22, .ireturn, 23)]
def k_31 : List (Nat × Instr × Nat) := [(0, .aload_n 0, 1), (1, .getfield 19, 4), (4, .iload_n 1, 5), (5, .if_icmp .eq 15, 8), (8, .aload_n 0, 9), (9, .bipush (-12), 11), (11, .invokevirtual 53, 14), (14, .ireturn, 15), (15, .aload_n 0, 16), (16, .invokevirtual 46, 19), (19, .iconst 1, 20), (20, .ireturn, 21)]
def k_32 : List (Nat × Instr × Nat) := [(0, .aload_n 0, 1), (1, .aload_n 1, 2), (2, .invokevirtual 57, 5), (5, .ifCond .ne 15, 8), (8, .aload_n 0, 9), (9, .bipush (-12), 11), (11, .invokevirtual 53, 14), (14, .ireturn, 15), (15, .aload_n 0, 16), (16, .invokevirtual 46, 19), (19, .iconst 1, 20), (20, .ireturn, 21)]
def k_33 : List (Nat × Instr × Nat) := [(0, .aload_n 0, 1), (1, .getfield 19, 4), (4, .bipush (-2), 6), (6, .if_icmp .ne 25, 9), (9, .aload_n 0, 10), (10, .getfield 25, 13), (13, .aload_n 0, 14), (14, .getfield 22, 17), (17, .isub, 18), (18, .aload_n 1, 19), (19, .invokevirtual 61, 22), (22, .if_icmp .eq 27, 25), (25, .iconst 0, 26), (26, .ireturn, 27), (27, .iconst 0, 28), (28, .istore_n 2, 29), (29, .iload_n 2, 30), (30, .aload_n 1, 31), (31, .invokevirtual 61, 34), (34, .if_icmp .ge 76, 37), (37, .aload_n 0, 38), (38, .getfield 22, 41), (41, .iload_n 2, 42), (42, .iadd, 43), (43, .sipush 600, 46), (46, .if_icmp .ge 76, 49), (49, .aload_n 0, 50), (50, .getfield 9, 53), (53, .aload_n 0, 54), (54, .getfield 22, 57), (57, .iload_n 2, 58), (58, .iadd, 59), (59, .baload, 60), (60, .aload_n 1, 61), (61, .iload_n 2, 62), (62, .invokevirtual 67, 65), (65, .if_icmp .eq 70, 68), (68, .iconst 0, 69), (69, .ireturn, 70), (70, .iinc 2 1, 73), (73, .goto 29, 76), (76, .iconst 1, 77), (77, .ireturn, 78)]
def k_34 : List (Nat × Instr × Nat) := [(0, .aload_n 0, 1), (1, .getfield 19, 4), (4, .bipush (-2), 6), (6, .if_icmp .ne 23, 9), (9, .aload_n 0, 10), (10, .getfield 25, 13), (13, .aload_n 0, 14), (14, .getfield 22, 17), (17, .isub, 18), (18, .bipush 6, 20), (20, .if_icmp .le 25, 23), (23, .iconst 0, 24), (24, .ireturn, 25), (25, .iconst 0, 26), (26, .istore_n 1, 27), (27, .aload_n 0, 28), (28, .getfield 22, 31), (31, .istore_n 2, 32), (32, .iload_n 2, 33), (33, .aload_n 0, 34), (34, .getfield 25, 37), (37, .if_icmp .ge 69, 40), (40, .iload_n 2, 41), (41, .sipush 600, 44), (44, .if_icmp .ge 69, 47), (47, .iload_n 1, 48), (48, .iconst 5, 49), (49, .ishl, 50), (50, .aload_n 0, 51), (51, .getfield 9, 54), (54, .iload_n 2, 55), (55, .baload, 56), (56, .bipush 97, 58), (58, .isub, 59), (59, .iconst 1, 60), (60, .iadd, 61), (61, .ior, 62), (62, .istore_n 1, 63), (63, .iinc 2 1, 66), (66, .goto 32, 69), (69, .iload_n 1, 70), (70, .ireturn, 71)]
def k_35 : List (Nat × Instr × Nat) := [(0, .aload_n 0, 1), (1, .invokespecial 3, 4), (4, .aload_n 0, 5), (5, .new 9, 8), (8, .dup, 9), (9, .invokespecial 11, 12), (12, .putfield 12, 15), (15, .aload_n 0, 16), (16, .bipush 40, 18), (18, .newarray .int, 20), (20, .putfield 18, 23), (23, .aload_n 0, 24), (24, .bipush 40, 26), (26, .newarray .int, 28), (28, .putfield 22, 31), (31, .aload_n 0, 32), (32, .bipush 40, 34), (34, .newarray .int, 36), (36, .putfield 25, 39), (39, .aload_n 0, 40), (40, .bipush 40, 42), (42, .newarray .int, 44), (44, .putfield 28, 47), (47, .aload_n 0, 48), (48, .bipush 40, 50), (50, .newarray .int, 52), (52, .putfield 31, 55), (55, .aload_n 0, 56), (56, .bipush 40, 58), (58, .newarray .int, 60), (60, .putfield 34, 63), (63, .aload_n 0, 64), (64, .bipush 40, 66), (66, .newarray .int, 68), (68, .putfield 37, 71), (71, .aload_n 0, 72), (72, .bipush 40, 74), (74, .newarray .int, 76), (76, .putfield 40, 79), (79, .aload_n 0, 80), (80, .bipush 40, 82), (82, .newarray .int, 84), (84, .putfield 43, 87), (87, .aload_n 0, 88), (88, .bipush 40, 90), (90, .newarray .int, 92), (92, .putfield 46, 95), (95, .aload_n 0, 96), (96, .iconst 0, 97), (97, .putfield 49, 100), (100, .aload_n 0, 101), (101, .iconst 0, 102), (102, .putfield 53, 105), (105, .aload_n 0, 106), (106, .iconst 0, 107), (107, .putfield 56, 110), (110, .aload_n 0, 111), (111, .iconst 0, 112), (112, .putfield 59, 115), (115, .return_, 116)]
def k_36 : List (Nat × Instr × Nat) := [(0, .aload_n 0, 1), (1, .iconst 0, 2), (2, .putfield 49, 5), (5, .aload_n 0, 6), (6, .iconst 1, 7), (7, .putfield 53, 10), (10, .aload_n 0, 11), (11, .iconst 0, 12), (12, .putfield 56, 15), (15, .aload_n 0, 16), (16, .iconst 0, 17), (17, .putfield 59, 20), (20, .aload_n 0, 21), (21, .iconst 0, 22), (22, .iload_n 1, 23), (23, .iconst 0, 24), (24, .invokevirtual 62, 27), (27, .pop, 28), (28, .return_, 29)]
def k_37 : List (Nat × Instr × Nat) := [(0, .aload_n 0, 1), (1, .getfield 49, 4), (4, .bipush 40, 6), (6, .if_icmp .lt 11, 9), (9, .iconst (-1), 10), (10, .ireturn, 11), (11, .aload_n 0, 12), (12, .getfield 49, 15), (15, .istore 4, 17), (17, .aload_n 0, 18), (18, .getfield 18, 21), (21, .iload 4, 23), (23, .aload_n 0, 24), (24, .getfield 56, 27), (27, .iastore, 28), (28, .aload_n 0, 29), (29, .getfield 22, 32), (32, .iload 4, 34), (34, .iload_n 1, 35), (35, .iastore, 36), (36, .aload_n 0, 37), (37, .getfield 25, 40), (40, .iload 4, 42), (42, .iload_n 2, 43), (43, .iastore, 44), (44, .aload_n 0, 45), (45, .getfield 28, 48), (48, .iload 4, 50), (50, .iload_n 3, 51), (51, .iastore, 52), (52, .aload_n 0, 53), (53, .getfield 31, 56), (56, .iload 4, 58), (58, .iconst (-1), 59), (59, .iastore, 60), (60, .aload_n 0, 61), (61, .getfield 34, 64), (64, .iload 4, 66), (66, .iconst (-1), 67), (67, .iastore, 68), (68, .aload_n 0, 69), (69, .getfield 37, 72), (72, .iload 4, 74), (74, .iconst 0, 75), (75, .iastore, 76), (76, .aload_n 0, 77), (77, .getfield 40, 80), (80, .iload 4, 82), (82, .iconst 0, 83), (83, .iastore, 84), (84, .aload_n 0, 85), (85, .getfield 43, 88), (88, .iload 4, 90), (90, .iconst 0, 91), (91, .iastore, 92), (92, .aload_n 0, 93), (93, .getfield 46, 96), (96, .iload 4, 98), (98, .iconst 0, 99), (99, .iastore, 100), (100, .aload_n 0, 101), (101, .dup, 102), (102, .getfield 49, 105), (105, .iconst 1, 106), (106, .iadd, 107), (107, .putfield 49, 110), (110, .aload_n 0, 111), (111, .dup, 112), (112, .getfield 56, 115), (115, .iconst 1, 116), (116, .iadd, 117), (117, .putfield 56, 120), (120, .iload 4, 122), (122, .ireturn, 123)]
def k_38 : List (Nat × Instr × Nat) := [(0, .aload_n 0, 1), (1, .dup, 2), (2, .getfield 49, 5), (5, .iconst 1, 6), (6, .isub, 7), (7, .putfield 49, 10), (10, .iload_n 1, 11), (11, .istore_n 2, 12), (12, .iload_n 2, 13), (13, .aload_n 0, 14), (14, .getfield 49, 17), (17, .if_icmp .ge 34, 20), (20, .aload_n 0, 21), (21, .iload_n 2, 22), (22, .iconst 1, 23), (23, .iadd, 24), (24, .iload_n 2, 25), (25, .invokevirtual 66, 28), (28, .iinc 2 1, 31), (31, .goto 12, 34), (34, .return_, 35)]
def k_39 : List (Nat × Instr × Nat) := [(0, .aload_n 0, 1), (1, .getfield 18, 4), (4, .iload_n 2, 5), (5, .aload_n 0, 6), (6, .getfield 18, 9), (9, .iload_n 1, 10), (10, .iaload, 11), (11, .iastore, 12), (12, .aload_n 0, 13), (13, .getfield 22, 16), (16, .iload_n 2, 17), (17, .aload_n 0, 18), (18, .getfield 22, 21), (21, .iload_n 1, 22), (22, .iaload, 23), (23, .iastore, 24), (24, .aload_n 0, 25), (25, .getfield 25, 28), (28, .iload_n 2, 29), (29, .aload_n 0, 30), (30, .getfield 25, 33), (33, .iload_n 1, 34), (34, .iaload, 35), (35, .iastore, 36), (36, .aload_n 0, 37), (37, .getfield 28, 40), (40, .iload_n 2, 41), (41, .aload_n 0, 42), (42, .getfield 28, 45), (45, .iload_n 1, 46), (46, .iaload, 47), (47, .iastore, 48), (48, .aload_n 0, 49), (49, .getfield 31, 52), (52, .iload_n 2, 53), (53, .aload_n 0, 54), (54, .getfield 31, 57), (57, .iload_n 1, 58), (58, .iaload, 59), (59, .iastore, 60), (60, .aload_n 0, 61), (61, .getfield 34, 64), (64, .iload_n 2, 65), (65, .aload_n 0, 66), (66, .getfield 34, 69), (69, .iload_n 1, 70), (70, .iaload, 71), (71, .iastore, 72), (72, .aload_n 0, 73), (73, .getfield 37, 76), (76, .iload_n 2, 77), (77, .aload_n 0, 78), (78, .getfield 37, 81), (81, .iload_n 1, 82), (82, .iaload, 83), (83, .iastore, 84), (84, .aload_n 0, 85), (85, .getfield 40, 88), (88, .iload_n 2, 89), (89, .aload_n 0, 90), (90, .getfield 40, 93), (93, .iload_n 1, 94), (94, .iaload, 95), (95, .iastore, 96), (96, .aload_n 0, 97), (97, .getfield 43, 100), (100, .iload_n 2, 101), (101, .aload_n 0, 102), (102, .getfield 43, 105), (105, .iload_n 1, 106), (106, .iaload, 107), (107, .iastore, 108), (108, .aload_n 0, 109), (109, .getfield 46, 112), (112, .iload_n 2, 113), (113, .aload_n 0, 114), (114, .getfield 46, 117), (117, .iload_n 1, 118), (118, .iaload, 119), (119, .iastore, 120), (120, .return_, 121)]
def k_40 : List (Nat × Instr × Nat) := [(0, .aload_n 0, 1), (1, .dup, 2), (2, .getfield 59, 5), (5, .iconst 1, 6), (6, .iadd, 7), (7, .putfield 59, 10), (10, .aload_n 0, 11), (11, .getfield 59, 14), (14, .ireturn, 15)]
def k_41 : List (Nat × Instr × Nat) := [(0, .iconst 0, 1), (1, .istore_n 2, 2), (2, .iload_n 2, 3), (3, .aload_n 0, 4), (4, .getfield 49, 7), (7, .if_icmp .ge 28, 10), (10, .aload_n 0, 11), (11, .getfield 18, 14), (14, .iload_n 2, 15), (15, .iaload, 16), (16, .iload_n 1, 17), (17, .if_icmp .ne 22, 20), (20, .iload_n 2, 21), (21, .ireturn, 22), (22, .iinc 2 1, 25), (25, .goto 2, 28), (28, .iconst (-1), 29), (29, .ireturn, 30)]
def k_42 : List (Nat × Instr × Nat) := [(0, .iconst 0, 1), (1, .istore_n 3, 2), (2, .iload_n 3, 3), (3, .aload_n 0, 4), (4, .getfield 49, 7), (7, .if_icmp .ge 43, 10), (10, .aload_n 0, 11), (11, .getfield 31, 14), (14, .iload_n 3, 15), (15, .iaload, 16), (16, .aload_n 0, 17), (17, .getfield 18, 20), (20, .iload_n 1, 21), (21, .iaload, 22), (22, .if_icmp .ne 37, 25), (25, .aload_n 0, 26), (26, .getfield 34, 29), (29, .iload_n 3, 30), (30, .iaload, 31), (31, .iload_n 2, 32), (32, .if_icmp .ne 37, 35), (35, .iload_n 3, 36), (36, .ireturn, 37), (37, .iinc 3 1, 40), (40, .goto 2, 43), (43, .iconst (-1), 44), (44, .ireturn, 45)]
def k_43 : List (Nat × Instr × Nat) := [(0, .aload_n 0, 1), (1, .getfield 31, 4), (4, .iload_n 1, 5), (5, .iaload, 6), (6, .ifCond .ge 13, 9), (9, .iconst (-1), 10), (10, .goto 23, 13), (13, .aload_n 0, 14), (14, .aload_n 0, 15), (15, .getfield 31, 18), (18, .iload_n 1, 19), (19, .iaload, 20), (20, .invokevirtual 70, 23), (23, .ireturn, 24)]
def k_44 : List (Nat × Instr × Nat) := [(0, .iconst 0, 1), (1, .istore_n 2, 2), (2, .iload_n 2, 3), (3, .aload_n 0, 4), (4, .getfield 49, 7), (7, .if_icmp .ge 33, 10), (10, .aload_n 0, 11), (11, .getfield 31, 14), (14, .iload_n 2, 15), (15, .iaload, 16), (16, .aload_n 0, 17), (17, .getfield 18, 20), (20, .iload_n 1, 21), (21, .iaload, 22), (22, .if_icmp .ne 27, 25), (25, .iconst 1, 26), (26, .ireturn, 27), (27, .iinc 2 1, 30), (30, .goto 2, 33), (33, .iconst 0, 34), (34, .ireturn, 35)]
def k_45 : List (Nat × Instr × Nat) := [(0, .iconst 0, 1), (1, .istore_n 2, 2), (2, .iload_n 2, 3), (3, .aload_n 0, 4), (4, .getfield 49, 7), (7, .if_icmp .ge 37, 10), (10, .aload_n 0, 11), (11, .getfield 22, 14), (14, .iload_n 2, 15), (15, .iaload, 16), (16, .iload_n 1, 17), (17, .if_icmp .ne 31, 20), (20, .aload_n 0, 21), (21, .getfield 31, 24), (24, .iload_n 2, 25), (25, .iaload, 26), (26, .ifCond .ge 31, 29), (29, .iload_n 2, 30), (30, .ireturn, 31), (31, .iinc 2 1, 34), (34, .goto 2, 37), (37, .iconst 0, 38), (38, .ireturn, 39)]
def k_46 : List (Nat × Instr × Nat) := [(0, .iload_n 2, 1), (1, .aload_n 0, 2), (2, .getfield 12, 5), (5, .aload_n 0, 6), (6, .getfield 25, 9), (9, .iload_n 1, 10), (10, .iaload, 11), (11, .invokevirtual 74, 14), (14, .if_icmp .ge 21, 17), (17, .iload_n 2, 18), (18, .goto 22, 21), (21, .iconst (-1), 22), (22, .istore_n 3, 23), (23, .iconst 0, 24), (24, .istore 4, 26), (26, .iload 4, 28), (28, .bipush 12, 30), (30, .if_icmp .ge 70, 33), (33, .iload_n 3, 34), (34, .ifCond .lt 70, 37), (37, .iload_n 3, 38), (38, .aload_n 0, 39), (39, .getfield 28, 42), (42, .iload_n 1, 43), (43, .iaload, 44), (44, .if_icmp .ne 49, 47), (47, .iconst 1, 48), (48, .ireturn, 49), (49, .aload_n 0, 50), (50, .getfield 12, 53), (53, .aload_n 0, 54), (54, .getfield 25, 57), (57, .iload_n 1, 58), (58, .iaload, 59), (59, .iload_n 3, 60), (60, .invokevirtual 77, 63), (63, .istore_n 3, 64), (64, .iinc 4 1, 67), (67, .goto 26, 70), (70, .iconst 0, 71), (71, .ireturn, 72)]
def k_47 : List (Nat × Instr × Nat) := [(0, .iload_n 1, 1), (1, .tableswitch 107 0 7 #[48, 56, 61, 66, 75, 84, 93, 102], 48), (48, .aload_n 0, 49), (49, .getfield 12, 52), (52, .getfield 81, 55), (55, .ireturn, 56), (56, .aload_n 0, 57), (57, .getfield 53, 60), (60, .ireturn, 61), (61, .aload_n 0, 62), (62, .getfield 49, 65), (65, .ireturn, 66), (66, .aload_n 0, 67), (67, .aload_n 0, 68), (68, .getfield 37, 71), (71, .invokevirtual 84, 74), (74, .ireturn, 75), (75, .aload_n 0, 76), (76, .aload_n 0, 77), (77, .getfield 40, 80), (80, .invokevirtual 84, 83), (83, .ireturn, 84), (84, .aload_n 0, 85), (85, .aload_n 0, 86), (86, .getfield 43, 89), (89, .invokevirtual 84, 92), (92, .ireturn, 93), (93, .aload_n 0, 94), (94, .aload_n 0, 95), (95, .getfield 46, 98), (98, .invokevirtual 84, 101), (101, .ireturn, 102), (102, .aload_n 0, 103), (103, .getfield 56, 106), (106, .ireturn, 107), (107, .aload_n 0, 108), (108, .getfield 59, 111), (111, .ireturn, 112)]
def k_48 : List (Nat × Instr × Nat) := [(0, .iconst 0, 1), (1, .istore_n 2, 2), (2, .iconst 0, 3), (3, .istore_n 3, 4), (4, .iload_n 3, 5), (5, .aload_n 0, 6), (6, .getfield 49, 9), (9, .if_icmp .ge 27, 12), (12, .aload_n 1, 13), (13, .iload_n 3, 14), (14, .iaload, 15), (15, .ifCond .eq 21, 18), (18, .iinc 2 1, 21), (21, .iinc 3 1, 24), (24, .goto 4, 27), (27, .iload_n 2, 28), (28, .ireturn, 29)]
def k_49 : List (Nat × Instr × Nat) := [(0, .iload_n 2, 1), (1, .tableswitch 104 0 7 #[48, 55, 62, 69, 76, 83, 90, 97], 48), (48, .aload_n 0, 49), (49, .getfield 22, 52), (52, .iload_n 1, 53), (53, .iaload, 54), (54, .ireturn, 55), (55, .aload_n 0, 56), (56, .getfield 25, 59), (59, .iload_n 1, 60), (60, .iaload, 61), (61, .ireturn, 62), (62, .aload_n 0, 63), (63, .getfield 28, 66), (66, .iload_n 1, 67), (67, .iaload, 68), (68, .ireturn, 69), (69, .aload_n 0, 70), (70, .getfield 31, 73), (73, .iload_n 1, 74), (74, .iaload, 75), (75, .ireturn, 76), (76, .aload_n 0, 77), (77, .getfield 34, 80), (80, .iload_n 1, 81), (81, .iaload, 82), (82, .ireturn, 83), (83, .aload_n 0, 84), (84, .getfield 37, 87), (87, .iload_n 1, 88), (88, .iaload, 89), (89, .ireturn, 90), (90, .aload_n 0, 91), (91, .getfield 40, 94), (94, .iload_n 1, 95), (95, .iaload, 96), (96, .ireturn, 97), (97, .aload_n 0, 98), (98, .getfield 43, 101), (101, .iload_n 1, 102), (102, .iaload, 103), (103, .ireturn, 104), (104, .aload_n 0, 105), (105, .getfield 46, 108), (108, .iload_n 1, 109), (109, .iaload, 110), (110, .ireturn, 111)]
def k_50 : List (Nat × Instr × Nat) := [(0, .aload_n 0, 1), (1, .getfield 12, 4), (4, .aload_n 1, 5), (5, .getfield 12, 8), (8, .invokevirtual 88, 11), (11, .aload_n 0, 12), (12, .aload_n 1, 13), (13, .getfield 49, 16), (16, .putfield 49, 19), (19, .aload_n 0, 20), (20, .aload_n 1, 21), (21, .getfield 53, 24), (24, .putfield 53, 27), (27, .aload_n 0, 28), (28, .aload_n 1, 29), (29, .getfield 56, 32), (32, .putfield 56, 35), (35, .aload_n 0, 36), (36, .aload_n 1, 37), (37, .getfield 59, 40), (40, .putfield 59, 43), (43, .aload_n 1, 44), (44, .getfield 18, 47), (47, .iconst 0, 48), (48, .aload_n 0, 49), (49, .getfield 18, 52), (52, .iconst 0, 53), (53, .aload_n 0, 54), (54, .getfield 49, 57), (57, .invokestatic 92, 60), (60, .aload_n 1, 61), (61, .getfield 22, 64), (64, .iconst 0, 65), (65, .aload_n 0, 66), (66, .getfield 22, 69), (69, .iconst 0, 70), (70, .aload_n 0, 71), (71, .getfield 49, 74), (74, .invokestatic 92, 77), (77, .aload_n 1, 78), (78, .getfield 25, 81), (81, .iconst 0, 82), (82, .aload_n 0, 83), (83, .getfield 25, 86), (86, .iconst 0, 87), (87, .aload_n 0, 88), (88, .getfield 49, 91), (91, .invokestatic 92, 94), (94, .aload_n 1, 95), (95, .getfield 28, 98), (98, .iconst 0, 99), (99, .aload_n 0, 100), (100, .getfield 28, 103), (103, .iconst 0, 104), (104, .aload_n 0, 105), (105, .getfield 49, 108), (108, .invokestatic 92, 111), (111, .aload_n 1, 112), (112, .getfield 31, 115), (115, .iconst 0, 116), (116, .aload_n 0, 117), (117, .getfield 31, 120), (120, .iconst 0, 121), (121, .aload_n 0, 122), (122, .getfield 49, 125), (125, .invokestatic 92, 128), (128, .aload_n 1, 129), (129, .getfield 34, 132), (132, .iconst 0, 133), (133, .aload_n 0, 134), (134, .getfield 34, 137), (137, .iconst 0, 138), (138, .aload_n 0, 139), (139, .getfield 49, 142), (142, .invokestatic 92, 145), (145, .aload_n 1, 146), (146, .getfield 37, 149), (149, .iconst 0, 150), (150, .aload_n 0, 151), (151, .getfield 37, 154), (154, .iconst 0, 155), (155, .aload_n 0, 156), (156, .getfield 49, 159), (159, .invokestatic 92, 162), (162, .aload_n 1, 163), (163, .getfield 40, 166), (166, .iconst 0, 167), (167, .aload_n 0, 168), (168, .getfield 40, 171), (171, .iconst 0, 172), (172, .aload_n 0, 173), (173, .getfield 49, 176), (176, .invokestatic 92, 179), (179, .aload_n 1, 180), (180, .getfield 43, 183), (183, .iconst 0, 184), (184, .aload_n 0, 185), (185, .getfield 43, 188), (188, .iconst 0, 189), (189, .aload_n 0, 190), (190, .getfield 49, 193), (193, .invokestatic 92, 196), (196, .aload_n 1, 197), (197, .getfield 46, 200), (200, .iconst 0, 201), (201, .aload_n 0, 202), (202, .getfield 46, 205), (205, .iconst 0, 206), (206, .aload_n 0, 207), (207, .getfield 49, 210), (210, .invokestatic 92, 213), (213, .return_, 214)]
def k_51 : List (Nat × Instr × Nat) := [(0, .aload_n 0, 1), (1, .invokespecial 3, 4), (4, .aload_n 0, 5), (5, .bipush 8, 7), (7, .anewarray 9, 10), (10, .putfield 11, 13), (13, .aload_n 0, 14), (14, .iconst 0, 15), (15, .putfield 17, 18), (18, .aload_n 0, 19), (19, .iconst 0, 20), (20, .putfield 21, 23), (23, .iconst 0, 24), (24, .istore_n 1, 25), (25, .iload_n 1, 26), (26, .bipush 8, 28), (28, .if_icmp .ge 50, 31), (31, .aload_n 0, 32), (32, .getfield 11, 35), (35, .iload_n 1, 36), (36, .new 9, 39), (39, .dup, 40), (40, .invokespecial 24, 43), (43, .aastore, 44), (44, .iinc 1 1, 47), (47, .goto 25, 50), (50, .return_, 51)]
def k_52 : List (Nat × Instr × Nat) := [(0, .aload_n 0, 1), (1, .getfield 11, 4), (4, .aload_n 0, 5), (5, .getfield 17, 8), (8, .aload_n 0, 9), (9, .getfield 21, 12), (12, .iadd, 13), (13, .bipush 8, 15), (15, .irem, 16), (16, .aaload, 17), (17, .astore_n 2, 18), (18, .aload_n 2, 19), (19, .ifnull 27, 22), (22, .aload_n 2, 23), (23, .aload_n 1, 24), (24, .invokevirtual 25, 27), (27, .aload_n 0, 28), (28, .getfield 21, 31), (31, .bipush 8, 33), (33, .if_icmp .ge 49, 36), (36, .aload_n 0, 37), (37, .dup, 38), (38, .getfield 21, 41), (41, .iconst 1, 42), (42, .iadd, 43), (43, .putfield 21, 46), (46, .goto 62, 49), (49, .aload_n 0, 50), (50, .aload_n 0, 51), (51, .getfield 17, 54), (54, .iconst 1, 55), (55, .iadd, 56), (56, .bipush 8, 58), (58, .irem, 59), (59, .putfield 17, 62), (62, .return_, 63)]
def k_53 : List (Nat × Instr × Nat) := [(0, .aload_n 0, 1), (1, .dup, 2), (2, .getfield 21, 5), (5, .iconst 1, 6), (6, .isub, 7), (7, .putfield 21, 10), (10, .aload_n 0, 11), (11, .getfield 11, 14), (14, .aload_n 0, 15), (15, .getfield 17, 18), (18, .aload_n 0, 19), (19, .getfield 21, 22), (22, .iadd, 23), (23, .bipush 8, 25), (25, .irem, 26), (26, .aaload, 27), (27, .astore_n 2, 28), (28, .aload_n 2, 29), (29, .ifnull 37, 32), (32, .aload_n 1, 33), (33, .aload_n 2, 34), (34, .invokevirtual 25, 37), (37, .return_, 38)]
def k_54 : List (Nat × Instr × Nat) := [(0, .aload_n 0, 1), (1, .invokespecial 3, 4), (4, .aload_n 0, 5), (5, .bipush 40, 7), (7, .newarray .int, 9), (9, .putfield 9, 12), (12, .aload_n 0, 13), (13, .bipush 12, 15), (15, .newarray .int, 17), (17, .putfield 15, 20), (20, .aload_n 0, 21), (21, .sipush 3360, 24), (24, .newarray .byte, 26), (26, .putfield 18, 29), (29, .aload_n 0, 30), (30, .iconst 0, 31), (31, .putfield 22, 34), (34, .aload_n 0, 35), (35, .aload_n 1, 36), (36, .putfield 26, 39), (39, .return_, 40)]
def k_55 : List (Nat × Instr × Nat) := [(0, .aload_n 0, 1), (1, .iconst 0, 2), (2, .putfield 22, 5), (5, .iconst 0, 6), (6, .istore_n 2, 7), (7, .iload_n 1, 8), (8, .istore_n 3, 9), (9, .iload_n 3, 10), (10, .ifCond .lt 41, 13), (13, .iload_n 2, 14), (14, .bipush 40, 16), (16, .if_icmp .ge 41, 19), (19, .aload_n 0, 20), (20, .getfield 9, 23), (23, .iload_n 2, 24), (24, .iload_n 3, 25), (25, .iastore, 26), (26, .iinc 2 1, 29), (29, .aload_n 0, 30), (30, .getfield 26, 33), (33, .iload_n 3, 34), (34, .invokevirtual 30, 37), (37, .istore_n 3, 38), (38, .goto 9, 41), (41, .iload_n 2, 42), (42, .iconst 1, 43), (43, .isub, 44), (44, .istore 4, 46), (46, .iload 4, 48), (48, .ifCond .lt 68, 51), (51, .aload_n 0, 52), (52, .aload_n 0, 53), (53, .getfield 9, 56), (56, .iload 4, 58), (58, .iaload, 59), (59, .invokevirtual 36, 62), (62, .iinc 4 (-1), 65), (65, .goto 46, 68), (68, .aload_n 0, 69), (69, .getfield 22, 72), (72, .ifCond .ne 81, 75), (75, .aload_n 0, 76), (76, .bipush 47, 78), (78, .invokevirtual 40, 81), (81, .aload_n 0, 82), (82, .getfield 22, 85), (85, .ireturn, 86)]
def k_56 : List (Nat × Instr × Nat) := [(0, .aload_n 0, 1), (1, .getfield 26, 4), (4, .iload_n 1, 5), (5, .invokevirtual 30, 8), (8, .istore_n 2, 9), (9, .iload_n 2, 10), (10, .ifCond .ge 14, 13), (13, .return_, 14), (14, .aload_n 0, 15), (15, .getfield 26, 18), (18, .getfield 43, 21), (21, .iload_n 2, 22), (22, .iaload, 23), (23, .istore_n 3, 24), (24, .iconst 0, 25), (25, .istore 4, 27), (27, .aload_n 0, 28), (28, .getfield 26, 31), (31, .getfield 46, 34), (34, .iload_n 1, 35), (35, .iaload, 36), (36, .istore 5, 38), (38, .iload 5, 40), (40, .aload_n 0, 41), (41, .getfield 26, 44), (44, .getfield 49, 47), (47, .iload_n 2, 48), (48, .iaload, 49), (49, .if_icmp .le 100, 52), (52, .iload 4, 54), (54, .bipush 12, 56), (56, .if_icmp .ge 100, 59), (59, .aload_n 0, 60), (60, .getfield 15, 63), (63, .iload 4, 65), (65, .aload_n 0, 66), (66, .getfield 26, 69), (69, .getfield 52, 72), (72, .iload_n 3, 73), (73, .iload 5, 75), (75, .invokevirtual 56, 78), (78, .iastore, 79), (79, .iinc 4 1, 82), (82, .aload_n 0, 83), (83, .getfield 26, 86), (86, .getfield 52, 89), (89, .iload_n 3, 90), (90, .iload 5, 92), (92, .invokevirtual 62, 95), (95, .istore 5, 97), (97, .goto 38, 100), (100, .iload 4, 102), (102, .iconst 1, 103), (103, .isub, 104), (104, .istore 6, 106), (106, .iload 6, 108), (108, .ifCond .lt 134, 111), (111, .aload_n 0, 112), (112, .bipush 47, 114), (114, .invokevirtual 40, 117), (117, .aload_n 0, 118), (118, .aload_n 0, 119), (119, .getfield 15, 122), (122, .iload 6, 124), (124, .iaload, 125), (125, .invokevirtual 65, 128), (128, .iinc 6 (-1), 131), (131, .goto 106, 134), (134, .return_, 135)]
def k_57 : List (Nat × Instr × Nat) := [(0, .bipush 25, 2), (2, .istore_n 2, 3), (3, .iload_n 2, 4), (4, .ifCond .lt 34, 7), (7, .iload_n 1, 8), (8, .iload_n 2, 9), (9, .ishr, 10), (10, .bipush 31, 12), (12, .iand, 13), (13, .istore_n 3, 14), (14, .iload_n 3, 15), (15, .ifCond .eq 28, 18), (18, .aload_n 0, 19), (19, .bipush 97, 21), (21, .iload_n 3, 22), (22, .iadd, 23), (23, .iconst 1, 24), (24, .isub, 25), (25, .invokevirtual 40, 28), (28, .iinc 2 (-5), 31), (31, .goto 3, 34), (34, .return_, 35)]
def k_58 : List (Nat × Instr × Nat) := [(0, .aload_n 0, 1), (1, .getfield 22, 4), (4, .aload_n 0, 5), (5, .getfield 18, 8), (8, .arraylength, 9), (9, .if_icmp .ge 33, 12), (12, .aload_n 0, 13), (13, .getfield 18, 16), (16, .aload_n 0, 17), (17, .getfield 22, 20), (20, .iload_n 1, 21), (21, .i2b, 22), (22, .bastore, 23), (23, .aload_n 0, 24), (24, .dup, 25), (25, .getfield 22, 28), (28, .iconst 1, 29), (29, .iadd, 30), (30, .putfield 22, 33), (33, .return_, 34)]
def k_59 : List (Nat × Instr × Nat) := [(0, .aload_n 0, 1), (1, .invokespecial 3, 4), (4, .aload_n 0, 5), (5, .aload_n 1, 6), (6, .putfield 9, 9), (9, .aload_n 0, 10), (10, .aload_n 2, 11), (11, .putfield 15, 14), (14, .aload_n 0, 15), (15, .aload_n 2, 16), (16, .getfield 19, 19), (19, .putfield 25, 22), (22, .aload_n 0, 23), (23, .new 26, 26), (26, .dup, 27), (27, .aload_n 2, 28), (28, .invokespecial 28, 31), (31, .putfield 31, 34), (34, .aload_n 0, 35), (35, .new 35, 38), (38, .dup, 39), (39, .aload_n 2, 40), (40, .invokespecial 37, 43), (43, .putfield 38, 46), (46, .return_, 47)]
def k_60 : List (Nat × Instr × Nat) := [(0, .aload_n 0, 1), (1, .getfield 25, 4), (4, .iconst 0, 5), (5, .putfield 42, 8), (8, .aload_n 0, 9), (9, .getfield 9, 12), (12, .ldc 48, 14), (14, .invokevirtual 50, 17), (17, .ifCond .eq 50, 20), (20, .aload_n 0, 21), (21, .getfield 9, 24), (24, .bipush 59, 26), (26, .invokevirtual 56, 29), (29, .ifCond .eq 50, 32), (32, .aload_n 0, 33), (33, .invokevirtual 60, 36), (36, .ifCond .eq 50, 39), (39, .aload_n 0, 40), (40, .invokevirtual 64, 43), (43, .ifCond .eq 50, 46), (46, .iconst 1, 47), (47, .goto 51, 50), (50, .iconst 0, 51), (51, .ireturn, 52)]
def k_61 : List (Nat × Instr × Nat) := [(0, .iconst 0, 1), (1, .istore_n 1, 2), (2, .iload_n 1, 3), (3, .iconst 4, 4), (4, .if_icmp .gt 89, 7), (7, .iload_n 1, 8), (8, .ifCond .le 25, 11), (11, .aload_n 0, 12), (12, .getfield 9, 15), (15, .ldc 67, 17), (17, .invokevirtual 69, 20), (20, .ifCond .eq 25, 23), (23, .iconst 1, 24), (24, .ireturn, 25), (25, .aload_n 0, 26), (26, .getfield 9, 29), (29, .ldc 72, 31), (31, .invokevirtual 69, 34), (34, .ifCond .ne 47, 37), (37, .aload_n 0, 38), (38, .getfield 9, 41), (41, .bipush (-12), 43), (43, .invokevirtual 74, 46), (46, .ireturn, 47), (47, .aload_n 0, 48), (48, .getfield 25, 51), (51, .invokevirtual 77, 54), (54, .ifCond .eq 67, 57), (57, .aload_n 0, 58), (58, .getfield 9, 61), (61, .bipush (-15), 63), (63, .invokevirtual 74, 66), (66, .ireturn, 67), (67, .aload_n 0, 68), (68, .getfield 9, 71), (71, .invokevirtual 80, 74), (74, .aload_n 0, 75), (75, .invokevirtual 83, 78), (78, .ifCond .ne 83, 81), (81, .iconst 0, 82), (82, .ireturn, 83), (83, .iinc 1 1, 86), (86, .goto 2, 89), (89, .aload_n 0, 90), (90, .getfield 9, 93), (93, .bipush (-15), 95), (95, .invokevirtual 74, 98), (98, .ireturn, 99)]
def k_62 : List (Nat × Instr × Nat) := [(0, .aload_n 0, 1), (1, .getfield 9, 4), (4, .invokevirtual 86, 7), (7, .istore_n 1, 8), (8, .iload_n 1, 9), (9, .ifCond .ne 22, 12), (12, .aload_n 0, 13), (13, .getfield 9, 16), (16, .bipush (-12), 18), (18, .invokevirtual 74, 21), (21, .ireturn, 22), (22, .aload_n 0, 23), (23, .getfield 25, 26), (26, .iload_n 1, 27), (27, .invokevirtual 90, 30), (30, .ifCond .lt 43, 33), (33, .aload_n 0, 34), (34, .getfield 9, 37), (37, .bipush (-14), 39), (39, .invokevirtual 74, 42), (42, .ireturn, 43), (43, .aload_n 0, 44), (44, .getfield 25, 47), (47, .iload_n 1, 48), (48, .invokevirtual 94, 51), (51, .aload_n 0, 52), (52, .getfield 9, 55), (55, .invokevirtual 80, 58), (58, .aload_n 0, 59), (59, .aload_n 0, 60), (60, .getfield 25, 63), (63, .getfield 42, 66), (66, .iconst 1, 67), (67, .isub, 68), (68, .iconst 0, 69), (69, .iconst 0, 70), (70, .invokevirtual 98, 73), (73, .ifCond .eq 92, 76), (76, .aload_n 0, 77), (77, .getfield 9, 80), (80, .bipush 59, 82), (82, .invokevirtual 56, 85), (85, .ifCond .eq 92, 88), (88, .iconst 1, 89), (89, .goto 93, 92), (92, .iconst 0, 93), (93, .ireturn, 94)]
def k_63 : List (Nat × Instr × Nat) := [(0, .aload_n 0, 1), (1, .getfield 9, 4), (4, .getfield 102, 7), (7, .bipush 40, 9), (9, .if_icmp .eq 14, 12), (12, .iconst 1, 13), (13, .ireturn, 14), (14, .iload_n 3, 15), (15, .iconst 5, 16), (16, .if_icmp .lt 29, 19), (19, .aload_n 0, 20), (20, .getfield 9, 23), (23, .bipush (-15), 25), (25, .invokevirtual 74, 28), (28, .ireturn, 29), (29, .aload_n 0, 30), (30, .getfield 9, 33), (33, .invokevirtual 80, 36), (36, .iconst 0, 37), (37, .istore 4, 39), (39, .iload 4, 41), (41, .bipush 12, 43), (43, .if_icmp .ge 95, 46), (46, .aload_n 0, 47), (47, .iload_n 1, 48), (48, .iload_n 2, 49), (49, .iload_n 3, 50), (50, .iconst 1, 51), (51, .iadd, 52), (52, .invokevirtual 105, 55), (55, .ifCond .ne 60, 58), (58, .iconst 0, 59), (59, .ireturn, 60), (60, .aload_n 0, 61), (61, .getfield 9, 64), (64, .getfield 102, 67), (67, .bipush 44, 69), (69, .if_icmp .eq 82, 72), (72, .aload_n 0, 73), (73, .getfield 9, 76), (76, .bipush 41, 78), (78, .invokevirtual 56, 81), (81, .ireturn, 82), (82, .aload_n 0, 83), (83, .getfield 9, 86), (86, .invokevirtual 80, 89), (89, .iinc 4 1, 92), (92, .goto 39, 95), (95, .aload_n 0, 96), (96, .getfield 9, 99), (99, .bipush (-15), 101), (101, .invokevirtual 74, 104), (104, .ireturn, 105)]
def k_64 : List (Nat × Instr × Nat) := [(0, .aload_n 0, 1), (1, .getfield 9, 4), (4, .invokevirtual 86, 7), (7, .istore 4, 9), (9, .iload 4, 11), (11, .ifCond .ne 24, 14), (14, .aload_n 0, 15), (15, .getfield 9, 18), (18, .bipush (-12), 20), (20, .invokevirtual 74, 23), (23, .ireturn, 24), (24, .aload_n 0, 25), (25, .getfield 25, 28), (28, .iload_n 1, 29), (29, .iload_n 2, 30), (30, .iload 4, 32), (32, .invokevirtual 108, 35), (35, .ifCond .lt 48, 38), (38, .aload_n 0, 39), (39, .getfield 9, 42), (42, .bipush (-14), 44), (44, .invokevirtual 74, 47), (47, .ireturn, 48), (48, .aload_n 0, 49), (49, .getfield 25, 52), (52, .iload_n 1, 53), (53, .iload_n 2, 54), (54, .iload 4, 56), (56, .invokevirtual 112, 59), (59, .istore 5, 61), (61, .iload 5, 63), (63, .ifCond .ge 76, 66), (66, .aload_n 0, 67), (67, .getfield 9, 70), (70, .bipush (-15), 72), (72, .invokevirtual 74, 75), (75, .ireturn, 76), (76, .aload_n 0, 77), (77, .getfield 9, 80), (80, .invokevirtual 80, 83), (83, .aload_n 0, 84), (84, .iload_n 1, 85), (85, .iload 5, 87), (87, .iload_n 3, 88), (88, .invokevirtual 98, 91), (91, .ireturn, 92)]
def k_65 : List (Nat × Instr × Nat) := [(0, .aload_n 0, 1), (1, .getfield 9, 4), (4, .invokevirtual 80, 7), (7, .aload_n 0, 8), (8, .invokevirtual 115, 11), (11, .istore_n 1, 12), (12, .iload_n 1, 13), (13, .ifCond .ge 18, 16), (16, .iconst 0, 17), (17, .ireturn, 18), (18, .aload_n 0, 19), (19, .getfield 15, 22), (22, .iload_n 1, 23), (23, .invokevirtual 118, 26), (26, .aload_n 0, 27), (27, .getfield 9, 30), (30, .bipush 59, 32), (32, .invokevirtual 56, 35), (35, .ireturn, 36)]
def k_66 : List (Nat × Instr × Nat) := [(0, .aload_n 0, 1), (1, .getfield 9, 4), (4, .invokevirtual 86, 7), (7, .istore_n 1, 8), (8, .iload_n 1, 9), (9, .ifCond .ne 16, 12), (12, .iconst (-1), 13), (13, .goto 24, 16), (16, .aload_n 0, 17), (17, .getfield 25, 20), (20, .iload_n 1, 21), (21, .invokevirtual 90, 24), (24, .istore_n 2, 25), (25, .iload_n 2, 26), (26, .ifCond .ge 50, 29), (29, .aload_n 0, 30), (30, .getfield 9, 33), (33, .iload_n 1, 34), (34, .ifCond .ne 42, 37), (37, .bipush (-12), 39), (39, .goto 44, 42), (42, .bipush (-13), 44), (44, .invokevirtual 74, 47), (47, .pop, 48), (48, .iconst (-1), 49), (49, .ireturn, 50), (50, .aload_n 0, 51), (51, .getfield 9, 54), (54, .invokevirtual 80, 57), (57, .iload_n 2, 58), (58, .ireturn, 59)]
def k_67 : List (Nat × Instr × Nat) := [(0, .iconst 0, 1), (1, .istore_n 1, 2), (2, .iload_n 1, 3), (3, .sipush 600, 6), (6, .if_icmp .ge 75, 9), (9, .aload_n 0, 10), (10, .getfield 9, 13), (13, .getfield 102, 16), (16, .iconst (-1), 17), (17, .if_icmp .eq 75, 20), (20, .aload_n 0, 21), (21, .getfield 9, 24), (24, .ldc 121, 26), (26, .invokevirtual 69, 29), (29, .ifCond .eq 39, 32), (32, .aload_n 0, 33), (33, .invokevirtual 123, 36), (36, .goto 62, 39), (39, .aload_n 0, 40), (40, .getfield 9, 43), (43, .ldc 126, 45), (45, .invokevirtual 69, 48), (48, .ifCond .eq 58, 51), (51, .aload_n 0, 52), (52, .invokevirtual 128, 55), (55, .goto 62, 58), (58, .aload_n 0, 59), (59, .invokevirtual 131, 62), (62, .istore_n 2, 63), (63, .iload_n 2, 64), (64, .ifCond .ne 69, 67), (67, .iconst 0, 68), (68, .ireturn, 69), (69, .iinc 1 1, 72), (72, .goto 2, 75), (75, .aload_n 0, 76), (76, .getfield 9, 79), (79, .invokevirtual 134, 82), (82, .ireturn, 83)]
def k_68 : List (Nat × Instr × Nat) := [(0, .aload_n 0, 1), (1, .getfield 9, 4), (4, .invokevirtual 80, 7), (7, .aload_n 0, 8), (8, .invokevirtual 115, 11), (11, .istore_n 1, 12), (12, .iload_n 1, 13), (13, .ifCond .lt 31, 16), (16, .aload_n 0, 17), (17, .getfield 38, 20), (20, .aload_n 0, 21), (21, .getfield 9, 24), (24, .iconst 0, 25), (25, .invokevirtual 137, 28), (28, .ifCond .ne 33, 31), (31, .iconst 0, 32), (32, .ireturn, 33), (33, .aload_n 0, 34), (34, .aload_n 0, 35), (35, .getfield 31, 38), (38, .aload_n 0, 39), (39, .getfield 38, 42), (42, .getfield 141, 45), (45, .aload_n 0, 46), (46, .getfield 38, 49), (49, .getfield 144, 52), (52, .iload_n 1, 53), (53, .invokevirtual 147, 56), (56, .invokevirtual 150, 59), (59, .ireturn, 60)]
def k_69 : List (Nat × Instr × Nat) := [(0, .aload_n 0, 1), (1, .getfield 9, 4), (4, .invokevirtual 80, 7), (7, .aload_n 0, 8), (8, .getfield 38, 11), (11, .aload_n 0, 12), (12, .getfield 9, 15), (15, .iconst 0, 16), (16, .invokevirtual 137, 19), (19, .ifCond .ne 24, 22), (22, .iconst 0, 23), (23, .ireturn, 24), (24, .aload_n 0, 25), (25, .getfield 38, 28), (28, .getfield 141, 31), (31, .istore_n 1, 32), (32, .aload_n 0, 33), (33, .getfield 38, 36), (36, .getfield 144, 39), (39, .istore_n 2, 40), (40, .aload_n 0, 41), (41, .getfield 9, 44), (44, .bipush 62, 46), (46, .invokevirtual 56, 49), (49, .ifCond .eq 67, 52), (52, .aload_n 0, 53), (53, .getfield 38, 56), (56, .aload_n 0, 57), (57, .getfield 9, 60), (60, .iconst 0, 61), (61, .invokevirtual 137, 64), (64, .ifCond .ne 69, 67), (67, .iconst 0, 68), (68, .ireturn, 69), (69, .aload_n 0, 70), (70, .aload_n 0, 71), (71, .getfield 31, 74), (74, .iload_n 1, 75), (75, .iload_n 2, 76), (76, .aload_n 0, 77), (77, .getfield 38, 80), (80, .getfield 141, 83), (83, .aload_n 0, 84), (84, .getfield 38, 87), (87, .getfield 144, 90), (90, .invokevirtual 153, 93), (93, .invokevirtual 150, 96), (96, .ireturn, 97)]
def k_70 : List (Nat × Instr × Nat) := [(0, .aload_n 0, 1), (1, .getfield 9, 4), (4, .getfield 102, 7), (7, .bipush 59, 9), (9, .if_icmp .ne 26, 12), (12, .iload_n 1, 13), (13, .ifCond .ge 26, 16), (16, .aload_n 0, 17), (17, .getfield 9, 20), (20, .bipush (-16), 22), (22, .invokevirtual 74, 25), (25, .ireturn, 26), (26, .aload_n 0, 27), (27, .getfield 9, 30), (30, .bipush 59, 32), (32, .invokevirtual 56, 35), (35, .ireturn, 36)]
def k_71 : List (Nat × Instr × Nat) := [(0, .aload_n 0, 1), (1, .getfield 9, 4), (4, .ldc 157, 6), (6, .invokevirtual 50, 9), (9, .ifCond .ne 14, 12), (12, .iconst 0, 13), (13, .ireturn, 14), (14, .aload_n 0, 15), (15, .invokevirtual 159, 18), (18, .istore_n 1, 19), (19, .iload_n 1, 20), (20, .ifCond .ge 33, 23), (23, .aload_n 0, 24), (24, .getfield 9, 27), (27, .bipush (-12), 29), (29, .invokevirtual 74, 32), (32, .ireturn, 33), (33, .aload_n 0, 34), (34, .getfield 9, 37), (37, .invokevirtual 80, 40), (40, .aload_n 0, 41), (41, .getfield 38, 44), (44, .aload_n 0, 45), (45, .getfield 9, 48), (48, .iconst 0, 49), (49, .invokevirtual 137, 52), (52, .ifCond .ne 57, 55), (55, .iconst 0, 56), (56, .ireturn, 57), (57, .aload_n 0, 58), (58, .getfield 31, 61), (61, .aload_n 0, 62), (62, .getfield 38, 65), (65, .getfield 141, 68), (68, .iload_n 1, 69), (69, .invokevirtual 162, 72), (72, .pop, 73), (73, .aload_n 0, 74), (74, .getfield 9, 77), (77, .bipush 59, 79), (79, .invokevirtual 56, 82), (82, .ireturn, 83)]
def k_72 : List (Nat × Instr × Nat) := [(0, .aload_n 0, 1), (1, .getfield 9, 4), (4, .ldc 166, 6), (6, .invokevirtual 69, 9), (9, .ifCond .eq 14, 12), (12, .iconst 0, 13), (13, .ireturn, 14), (14, .aload_n 0, 15), (15, .getfield 9, 18), (18, .ldc 168, 20), (20, .invokevirtual 69, 23), (23, .ifCond .eq 28, 26), (26, .iconst 1, 27), (27, .ireturn, 28), (28, .aload_n 0, 29), (29, .getfield 9, 32), (32, .ldc 170, 34), (34, .invokevirtual 69, 37), (37, .ifCond .eq 42, 40), (40, .iconst 2, 41), (41, .ireturn, 42), (42, .aload_n 0, 43), (43, .getfield 9, 46), (46, .ldc 172, 48), (48, .invokevirtual 69, 51), (51, .ifCond .eq 58, 54), (54, .iconst 3, 55), (55, .goto 59, 58), (58, .iconst (-1), 59), (59, .ireturn, 60)]
def k_73 : List (Nat × Instr × Nat) := [(0, .aload_n 0, 1), (1, .invokespecial 3, 4), (4, .aload_n 0, 5), (5, .sipush 480, 8), (8, .newarray .int, 10), (10, .putfield 9, 13), (13, .aload_n 0, 14), (14, .sipush 480, 17), (17, .newarray .int, 19), (19, .putfield 15, 22), (22, .aload_n 0, 23), (23, .iconst 0, 24), (24, .putfield 18, 27), (27, .aload_n 0, 28), (28, .aload_n 1, 29), (29, .putfield 22, 32), (32, .aload_n 0, 33), (33, .new 26, 36), (36, .dup, 37), (37, .aload_n 1, 38), (38, .invokespecial 28, 41), (41, .putfield 31, 44), (44, .return_, 45)]
def k_74 : List (Nat × Instr × Nat) := [(0, .aload_n 0, 1), (1, .iconst 0, 2), (2, .putfield 18, 5), (5, .aload_n 0, 6), (6, .getfield 31, 9), (9, .iload_n 1, 10), (10, .invokevirtual 35, 13), (13, .aload_n 0, 14), (14, .invokevirtual 39, 17), (17, .iconst 0, 18), (18, .istore_n 2, 19), (19, .iload_n 2, 20), (20, .aload_n 0, 21), (21, .getfield 18, 24), (24, .if_icmp .ge 56, 27), (27, .iload_n 2, 28), (28, .sipush 480, 31), (31, .if_icmp .ge 56, 34), (34, .aload_n 0, 35), (35, .aload_n 0, 36), (36, .getfield 9, 39), (39, .iload_n 2, 40), (40, .iaload, 41), (41, .aload_n 0, 42), (42, .getfield 15, 45), (45, .iload_n 2, 46), (46, .iaload, 47), (47, .invokevirtual 42, 50), (50, .iinc 2 1, 53), (53, .goto 19, 56), (56, .aload_n 0, 57), (57, .getfield 18, 60), (60, .ireturn, 61)]
def k_75 : List (Nat × Instr × Nat) := [(0, .aload_n 0, 1), (1, .getfield 18, 4), (4, .sipush 480, 7), (7, .if_icmp .ge 52, 10), (10, .aload_n 0, 11), (11, .getfield 9, 14), (14, .aload_n 0, 15), (15, .getfield 18, 18), (18, .aload_n 0, 19), (19, .getfield 31, 22), (22, .getfield 46, 25), (25, .iastore, 26), (26, .aload_n 0, 27), (27, .getfield 15, 30), (30, .aload_n 0, 31), (31, .getfield 18, 34), (34, .aload_n 0, 35), (35, .getfield 31, 38), (38, .getfield 49, 41), (41, .iastore, 42), (42, .aload_n 0, 43), (43, .dup, 44), (44, .getfield 18, 47), (47, .iconst 1, 48), (48, .iadd, 49), (49, .putfield 18, 52), (52, .return_, 53)]
def k_76 : List (Nat × Instr × Nat) := [(0, .aload_n 0, 1), (1, .getfield 22, 4), (4, .getfield 52, 7), (7, .iload_n 1, 8), (8, .iaload, 9), (9, .istore_n 3, 10), (10, .iload_n 2, 11), (11, .iconst 1, 12), (12, .iadd, 13), (13, .istore 4, 15), (15, .iload 4, 17), (17, .aload_n 0, 18), (18, .getfield 22, 21), (21, .getfield 57, 24), (24, .iload_n 3, 25), (25, .invokevirtual 61, 28), (28, .if_icmp .ge 68, 31), (31, .aload_n 0, 32), (32, .getfield 22, 35), (35, .getfield 57, 38), (38, .iload_n 3, 39), (39, .iload 4, 41), (41, .invokevirtual 67, 44), (44, .iload_n 2, 45), (45, .if_icmp .ne 62, 48), (48, .aload_n 0, 49), (49, .getfield 31, 52), (52, .iload_n 1, 53), (53, .iload 4, 55), (55, .invokevirtual 71, 58), (58, .aload_n 0, 59), (59, .invokevirtual 39, 62), (62, .iinc 4 1, 65), (65, .goto 15, 68), (68, .return_, 69)]
def k_77 : List (Nat × Instr × Nat) := [(0, .iconst 0, 1), (1, .istore_n 3, 2), (2, .iload_n 3, 3), (3, .aload_n 0, 4), (4, .getfield 18, 7), (7, .if_icmp .ge 38, 10), (10, .aload_n 0, 11), (11, .getfield 9, 14), (14, .iload_n 3, 15), (15, .iaload, 16), (16, .iload_n 1, 17), (17, .if_icmp .ne 32, 20), (20, .aload_n 0, 21), (21, .getfield 15, 24), (24, .iload_n 3, 25), (25, .iaload, 26), (26, .iload_n 2, 27), (27, .if_icmp .ne 32, 30), (30, .iconst 1, 31), (31, .ireturn, 32), (32, .iinc 3 1, 35), (35, .goto 2, 38), (38, .iconst 0, 39), (39, .ireturn, 40)]
def k_78 : List (Nat × Instr × Nat) := [(0, .aload_n 0, 1), (1, .invokespecial 3, 4), (4, .aload_n 0, 5), (5, .iconst 4, 6), (6, .newarray .int, 8), (8, .putfield 9, 11), (11, .aload_n 0, 12), (12, .iconst 4, 13), (13, .newarray .int, 15), (15, .putfield 15, 18), (18, .aload_n 0, 19), (19, .bipush 48, 21), (21, .newarray .int, 23), (23, .putfield 18, 26), (26, .aload_n 0, 27), (27, .bipush 48, 29), (29, .newarray .int, 31), (31, .putfield 21, 34), (34, .aload_n 0, 35), (35, .iconst 0, 36), (36, .putfield 24, 39), (39, .return_, 40)]
def k_79 : List (Nat × Instr × Nat) := [(0, .aload_n 0, 1), (1, .getfield 24, 4), (4, .iconst 4, 5), (5, .if_icmp .lt 12, 8), (8, .iconst 1, 9), (9, .goto 13, 12), (12, .iconst 0, 13), (13, .ireturn, 14)]
def k_80 : List (Nat × Instr × Nat) := [(0, .aload_n 0, 1), (1, .getfield 24, 4), (4, .iconst 4, 5), (5, .if_icmp .ge 51, 8), (8, .aload_n 0, 9), (9, .getfield 9, 12), (12, .aload_n 0, 13), (13, .getfield 24, 16), (16, .iload_n 1, 17), (17, .iastore, 18), (18, .aload_n 0, 19), (19, .getfield 15, 22), (22, .aload_n 0, 23), (23, .getfield 24, 26), (26, .iconst 0, 27), (27, .iastore, 28), (28, .aload_n 0, 29), (29, .dup, 30), (30, .getfield 24, 33), (33, .iconst 1, 34), (34, .iadd, 35), (35, .putfield 24, 38), (38, .aload_n 0, 39), (39, .aload_n 0, 40), (40, .getfield 24, 43), (43, .iconst 1, 44), (44, .isub, 45), (45, .iconst (-1), 46), (46, .iconst 0, 47), (47, .invokevirtual 28, 50), (50, .pop, 51), (51, .return_, 52)]
def k_81 : List (Nat × Instr × Nat) := [(0, .aload_n 0, 1), (1, .getfield 15, 4), (4, .iload_n 1, 5), (5, .iaload, 6), (6, .istore 4, 8), (8, .iload 4, 10), (10, .bipush 12, 12), (12, .if_icmp .lt 17, 15), (15, .iconst (-1), 16), (16, .ireturn, 17), (17, .aload_n 0, 18), (18, .getfield 18, 21), (21, .iload_n 1, 22), (22, .bipush 12, 24), (24, .imul, 25), (25, .iload 4, 27), (27, .iadd, 28), (28, .iload_n 3, 29), (29, .iastore, 30), (30, .aload_n 0, 31), (31, .getfield 21, 34), (34, .iload_n 1, 35), (35, .bipush 12, 37), (37, .imul, 38), (38, .iload 4, 40), (40, .iadd, 41), (41, .iload_n 2, 42), (42, .iastore, 43), (43, .aload_n 0, 44), (44, .getfield 15, 47), (47, .iload_n 1, 48), (48, .dup2, 49), (49, .iaload, 50), (50, .iconst 1, 51), (51, .iadd, 52), (52, .iastore, 53), (53, .iload 4, 55), (55, .ireturn, 56)]
def k_82 : List (Nat × Instr × Nat) := [(0, .aload_n 0, 1), (1, .getfield 15, 4), (4, .iload_n 1, 5), (5, .iaload, 6), (6, .ireturn, 7)]
def k_83 : List (Nat × Instr × Nat) := [(0, .aload_n 0, 1), (1, .getfield 21, 4), (4, .iload_n 1, 5), (5, .bipush 12, 7), (7, .imul, 8), (8, .iload_n 2, 9), (9, .iadd, 10), (10, .iaload, 11), (11, .ireturn, 12)]
def k_84 : List (Nat × Instr × Nat) := [(0, .aload_n 0, 1), (1, .getfield 18, 4), (4, .iload_n 1, 5), (5, .bipush 12, 7), (7, .imul, 8), (8, .iload_n 2, 9), (9, .iadd, 10), (10, .iaload, 11), (11, .ireturn, 12)]
def k_85 : List (Nat × Instr × Nat) := [(0, .iconst 0, 1), (1, .istore_n 2, 2), (2, .iload_n 2, 3), (3, .aload_n 0, 4), (4, .getfield 24, 7), (7, .if_icmp .ge 28, 10), (10, .aload_n 0, 11), (11, .getfield 9, 14), (14, .iload_n 2, 15), (15, .iaload, 16), (16, .iload_n 1, 17), (17, .if_icmp .ne 22, 20), (20, .iload_n 2, 21), (21, .ireturn, 22), (22, .iinc 2 1, 25), (25, .goto 2, 28), (28, .iconst (-1), 29), (29, .ireturn, 30)]
def k_86 : List (Nat × Instr × Nat) := [(0, .iconst 1, 1), (1, .istore 4, 3), (3, .iload 4, 5), (5, .aload_n 0, 6), (6, .getfield 15, 9), (9, .iload_n 1, 10), (10, .iaload, 11), (11, .if_icmp .ge 54, 14), (14, .iload_n 1, 15), (15, .bipush 12, 17), (17, .imul, 18), (18, .iload 4, 20), (20, .iadd, 21), (21, .istore 5, 23), (23, .aload_n 0, 24), (24, .getfield 21, 27), (27, .iload 5, 29), (29, .iaload, 30), (30, .iload_n 2, 31), (31, .if_icmp .ne 48, 34), (34, .aload_n 0, 35), (35, .getfield 18, 38), (38, .iload 5, 40), (40, .iaload, 41), (41, .iload_n 3, 42), (42, .if_icmp .ne 48, 45), (45, .iload 4, 47), (47, .ireturn, 48), (48, .iinc 4 1, 51), (51, .goto 3, 54), (54, .iconst (-1), 55), (55, .ireturn, 56)]
def k_87 : List (Nat × Instr × Nat) := [(0, .aload_n 0, 1), (1, .aload_n 1, 2), (2, .getfield 24, 5), (5, .putfield 24, 8), (8, .aload_n 1, 9), (9, .getfield 9, 12), (12, .iconst 0, 13), (13, .aload_n 0, 14), (14, .getfield 9, 17), (17, .iconst 0, 18), (18, .aload_n 0, 19), (19, .getfield 9, 22), (22, .arraylength, 23), (23, .invokestatic 32, 26), (26, .aload_n 1, 27), (27, .getfield 15, 30), (30, .iconst 0, 31), (31, .aload_n 0, 32), (32, .getfield 15, 35), (35, .iconst 0, 36), (36, .aload_n 0, 37), (37, .getfield 15, 40), (40, .arraylength, 41), (41, .invokestatic 32, 44), (44, .aload_n 1, 45), (45, .getfield 18, 48), (48, .iconst 0, 49), (49, .aload_n 0, 50), (50, .getfield 18, 53), (53, .iconst 0, 54), (54, .aload_n 0, 55), (55, .getfield 18, 58), (58, .arraylength, 59), (59, .invokestatic 32, 62), (62, .aload_n 1, 63), (63, .getfield 21, 66), (66, .iconst 0, 67), (67, .aload_n 0, 68), (68, .getfield 21, 71), (71, .iconst 0, 72), (72, .aload_n 0, 73), (73, .getfield 21, 76), (76, .arraylength, 77), (77, .invokestatic 32, 80), (80, .return_, 81)]
def k_88 : List (Nat × Instr × Nat) := [(0, .aload_n 0, 1), (1, .invokespecial 3, 4), (4, .aload_n 0, 5), (5, .iconst 0, 6), (6, .putfield 9, 9), (9, .aload_n 0, 10), (10, .iconst 0, 11), (11, .putfield 15, 14), (14, .aload_n 0, 15), (15, .aload_n 1, 16), (16, .putfield 18, 19), (19, .return_, 20)]
def k_89 : List (Nat × Instr × Nat) := [(0, .aload_n 0, 1), (1, .iload_n 1, 2), (2, .putfield 9, 5), (5, .aload_n 0, 6), (6, .iload_n 2, 7), (7, .putfield 15, 10), (10, .aload_n 0, 11), (11, .getfield 18, 14), (14, .aload_n 0, 15), (15, .getfield 9, 18), (18, .aload_n 0, 19), (19, .getfield 15, 22), (22, .invokevirtual 22, 25), (25, .istore_n 3, 26), (26, .iconst 0, 27), (27, .istore 4, 29), (29, .iload 4, 31), (31, .bipush 40, 33), (33, .if_icmp .ge 80, 36), (36, .iload_n 3, 37), (37, .ifCond .lt 80, 40), (40, .aload_n 0, 41), (41, .iload_n 3, 42), (42, .putfield 9, 45), (45, .aload_n 0, 46), (46, .aload_n 0, 47), (47, .getfield 18, 50), (50, .getfield 28, 53), (53, .iload_n 3, 54), (54, .iaload, 55), (55, .putfield 15, 58), (58, .aload_n 0, 59), (59, .getfield 18, 62), (62, .aload_n 0, 63), (63, .getfield 9, 66), (66, .aload_n 0, 67), (67, .getfield 15, 70), (70, .invokevirtual 22, 73), (73, .istore_n 3, 74), (74, .iinc 4 1, 77), (77, .goto 29, 80), (80, .return_, 81)]
def k_90 : List (Nat × Instr × Nat) := [(0, .aload_n 0, 1), (1, .getfield 18, 4), (4, .iload_n 1, 5), (5, .invokevirtual 32, 8), (8, .istore_n 2, 9), (9, .aload_n 0, 10), (10, .iload_n 2, 11), (11, .aload_n 0, 12), (12, .getfield 18, 15), (15, .getfield 28, 18), (18, .iload_n 2, 19), (19, .iaload, 20), (20, .invokevirtual 36, 23), (23, .return_, 24)]
def k_91 : List (Nat × Instr × Nat) := [(0, .aload_n 1, 1), (1, .bipush 47, 3), (3, .invokevirtual 40, 6), (6, .ifCond .ne 11, 9), (9, .iconst 0, 10), (10, .ireturn, 11), (11, .aload_n 0, 12), (12, .iload_n 2, 13), (13, .invokevirtual 46, 16), (16, .aload_n 1, 17), (17, .getfield 50, 20), (20, .bipush (-2), 22), (22, .if_icmp .eq 27, 25), (25, .iconst 1, 26), (26, .ireturn, 27), (27, .iconst 0, 28), (28, .istore_n 3, 29), (29, .iload_n 3, 30), (30, .sipush 600, 33), (33, .if_icmp .ge 67, 36), (36, .aload_n 0, 37), (37, .aload_n 1, 38), (38, .invokevirtual 53, 41), (41, .ifCond .ne 46, 44), (44, .iconst 0, 45), (45, .ireturn, 46), (46, .aload_n 1, 47), (47, .getfield 50, 50), (50, .bipush 47, 52), (52, .if_icmp .eq 57, 55), (55, .iconst 1, 56), (56, .ireturn, 57), (57, .aload_n 1, 58), (58, .invokevirtual 57, 61), (61, .iinc 3 1, 64), (64, .goto 29, 67), (67, .aload_n 1, 68), (68, .bipush (-12), 70), (70, .invokevirtual 60, 73), (73, .ireturn, 74)]
def k_92 : List (Nat × Instr × Nat) := [(0, .aload_n 1, 1), (1, .invokevirtual 63, 4), (4, .istore_n 2, 5), (5, .iload_n 2, 6), (6, .ifCond .ne 16, 9), (9, .aload_n 1, 10), (10, .bipush (-12), 12), (12, .invokevirtual 60, 15), (15, .ireturn, 16), (16, .aload_n 0, 17), (17, .getfield 18, 20), (20, .getfield 67, 23), (23, .aload_n 0, 24), (24, .getfield 18, 27), (27, .getfield 71, 30), (30, .aload_n 0, 31), (31, .getfield 9, 34), (34, .iaload, 35), (35, .aload_n 0, 36), (36, .getfield 15, 39), (39, .iload_n 2, 40), (40, .invokevirtual 74, 43), (43, .istore_n 3, 44), (44, .iload_n 3, 45), (45, .ifCond .ge 55, 48), (48, .aload_n 1, 49), (49, .bipush (-13), 51), (51, .invokevirtual 60, 54), (54, .ireturn, 55), (55, .aload_n 0, 56), (56, .aload_n 0, 57), (57, .getfield 9, 60), (60, .iload_n 3, 61), (61, .invokevirtual 36, 64), (64, .aload_n 1, 65), (65, .invokevirtual 57, 68), (68, .iconst 1, 69), (69, .ireturn, 70)]
def k_93 : List (Nat × Instr × Nat) := [(0, .aload_n 0, 1), (1, .invokespecial 3, 4), (4, .aload_n 0, 5), (5, .new 9, 8), (8, .dup, 9), (9, .invokespecial 11, 12), (12, .putfield 12, 15), (15, .aload_n 0, 16), (16, .iconst (-1), 17), (17, .putfield 16, 20), (20, .aload_n 0, 21), (21, .new 20, 24), (24, .dup, 25), (25, .invokespecial 22, 28), (28, .putfield 23, 31), (31, .aload_n 0, 32), (32, .new 27, 35), (35, .dup, 36), (36, .aload_n 0, 37), (37, .getfield 23, 40), (40, .invokespecial 29, 43), (43, .putfield 32, 46), (46, .aload_n 0, 47), (47, .new 36, 50), (50, .dup, 51), (51, .aload_n 0, 52), (52, .getfield 23, 55), (55, .invokespecial 38, 58), (58, .putfield 39, 61), (61, .aload_n 0, 62), (62, .new 43, 65), (65, .dup, 66), (66, .aload_n 0, 67), (67, .getfield 23, 70), (70, .invokespecial 45, 73), (73, .putfield 46, 76), (76, .aload_n 0, 77), (77, .new 50, 80), (80, .dup, 81), (81, .aload_n 0, 82), (82, .getfield 23, 85), (85, .invokespecial 52, 88), (88, .putfield 53, 91), (91, .aload_n 0, 92), (92, .new 57, 95), (95, .dup, 96), (96, .aload_n 0, 97), (97, .getfield 23, 100), (100, .invokespecial 59, 103), (103, .putfield 60, 106), (106, .aload_n 0, 107), (107, .new 20, 110), (110, .dup, 111), (111, .invokespecial 22, 114), (114, .putfield 64, 117), (117, .aload_n 0, 118), (118, .new 67, 121), (121, .dup, 122), (122, .aload_n 0, 123), (123, .getfield 12, 126), (126, .aload_n 0, 127), (127, .getfield 64, 130), (130, .invokespecial 69, 133), (133, .putfield 72, 136), (136, .aload_n 0, 137), (137, .new 76, 140), (140, .dup, 141), (141, .invokespecial 78, 144), (144, .putfield 79, 147), (147, .aload_n 0, 148), (148, .getfield 23, 151), (151, .getfield 83, 154), (154, .iconst 0, 155), (155, .invokevirtual 87, 158), (158, .aload_n 0, 159), (159, .getfield 23, 162), (162, .iconst 0, 163), (163, .invokevirtual 93, 166), (166, .return_, 167)]
def k_94 : List (Nat × Instr × Nat) := [(0, .aload_n 0, 1), (1, .getfield 12, 4), (4, .bipush 20, 6), (6, .invokevirtual 96, 9), (9, .ifCond .ne 14, 12), (12, .iconst (-1), 13), (13, .ireturn, 14), (14, .aload_n 0, 15), (15, .getfield 12, 18), (18, .iload_n 1, 19), (19, .invokevirtual 100, 22), (22, .aload_n 0, 23), (23, .getfield 12, 26), (26, .iload_n 2, 27), (27, .invokevirtual 100, 30), (30, .aload_n 0, 31), (31, .getfield 12, 34), (34, .iload_n 3, 35), (35, .invokevirtual 100, 38), (38, .aload_n 0, 39), (39, .getfield 12, 42), (42, .iload 4, 44), (44, .invokevirtual 100, 47), (47, .aload_n 0, 48), (48, .getfield 12, 51), (51, .iload 5, 53), (53, .invokevirtual 100, 56), (56, .aload_n 0, 57), (57, .getfield 12, 60), (60, .getfield 103, 63), (63, .ireturn, 64)]
def k_95 : List (Nat × Instr × Nat) := [(0, .aload_n 0, 1), (1, .iload_n 1, 2), (2, .invokevirtual 106, 5), (5, .aload_n 0, 6), (6, .getfield 12, 9), (9, .iload_n 1, 10), (10, .invokevirtual 109, 13), (13, .aload_n 0, 14), (14, .getfield 72, 17), (17, .invokevirtual 112, 20), (20, .ifCond .eq 37, 23), (23, .aload_n 0, 24), (24, .getfield 72, 27), (27, .invokevirtual 116, 30), (30, .ifCond .eq 37, 33), (33, .iconst 1, 34), (34, .goto 38, 37), (37, .iconst 0, 38), (38, .istore_n 2, 39), (39, .aload_n 0, 40), (40, .aload_n 0, 41), (41, .getfield 12, 44), (44, .getfield 119, 47), (47, .putfield 16, 50), (50, .iload_n 2, 51), (51, .ifCond .ne 62, 54), (54, .aload_n 0, 55), (55, .getfield 12, 58), (58, .getfield 120, 61), (61, .ireturn, 62), (62, .aload_n 0, 63), (63, .getfield 79, 66), (66, .aload_n 0, 67), (67, .getfield 23, 70), (70, .invokevirtual 123, 73), (73, .aload_n 0, 74), (74, .getfield 23, 77), (77, .aload_n 0, 78), (78, .getfield 64, 81), (81, .invokevirtual 126, 84), (84, .aload_n 0, 85), (85, .getfield 23, 88), (88, .getfield 129, 91), (91, .ireturn, 92)]
def k_96 : List (Nat × Instr × Nat) := [(0, .iload_n 1, 1), (1, .ifCond .lt 15, 4), (4, .iload_n 1, 5), (5, .aload_n 0, 6), (6, .getfield 12, 9), (9, .getfield 103, 12), (12, .if_icmp .le 25, 15), (15, .new 132, 18), (18, .dup, 19), (19, .ldc 134, 21), (21, .invokespecial 136, 24), (24, .athrow, 25), (25, .return_, 26)]
def k_97 : List (Nat × Instr × Nat) := [(0, .aload_n 0, 1), (1, .getfield 16, 4), (4, .ireturn, 5)]
def k_98 : List (Nat × Instr × Nat) := [(0, .iload_n 1, 1), (1, .ifCond .lt 10, 4), (4, .iload_n 1, 5), (5, .bipush 8, 7), (7, .if_icmp .le 20, 10), (10, .new 132, 13), (13, .dup, 14), (14, .ldc 139, 16), (16, .invokespecial 136, 19), (19, .athrow, 20), (20, .aload_n 0, 21), (21, .getfield 23, 24), (24, .iload_n 1, 25), (25, .invokevirtual 141, 28), (28, .ireturn, 29)]
def k_99 : List (Nat × Instr × Nat) := [(0, .aload_n 0, 1), (1, .iload_n 1, 2), (2, .invokevirtual 145, 5), (5, .aload_n 0, 6), (6, .getfield 23, 9), (9, .getfield 83, 12), (12, .iload_n 1, 13), (13, .invokevirtual 148, 16), (16, .ireturn, 17)]
def k_100 : List (Nat × Instr × Nat) := [(0, .aload_n 0, 1), (1, .iload_n 1, 2), (2, .invokevirtual 145, 5), (5, .iload_n 2, 6), (6, .ifCond .lt 24, 9), (9, .iload_n 2, 10), (10, .aload_n 0, 11), (11, .getfield 23, 14), (14, .getfield 83, 17), (17, .iload_n 1, 18), (18, .invokevirtual 148, 21), (21, .if_icmp .lt 34, 24), (24, .new 151, 27), (27, .dup, 28), (28, .ldc 153, 30), (30, .invokespecial 155, 33), (33, .athrow, 34), (34, .aload_n 0, 35), (35, .getfield 23, 38), (38, .getfield 83, 41), (41, .iload_n 1, 42), (42, .iload_n 2, 43), (43, .invokevirtual 156, 46), (46, .ireturn, 47)]
def k_101 : List (Nat × Instr × Nat) := [(0, .iload_n 1, 1), (1, .ifCond .lt 18, 4), (4, .iload_n 1, 5), (5, .aload_n 0, 6), (6, .getfield 23, 9), (9, .getfield 83, 12), (12, .getfield 160, 15), (15, .if_icmp .lt 28, 18), (18, .new 151, 21), (21, .dup, 22), (22, .ldc 161, 24), (24, .invokespecial 155, 27), (27, .athrow, 28), (28, .return_, 29)]
def k_102 : List (Nat × Instr × Nat) := [(0, .aload_n 0, 1), (1, .iload_n 1, 2), (2, .invokevirtual 163, 5), (5, .istore_n 3, 6), (6, .iload_n 2, 7), (7, .ifCond .lt 16, 10), (10, .iload_n 2, 11), (11, .bipush 8, 13), (13, .if_icmp .le 26, 16), (16, .new 132, 19), (19, .dup, 20), (20, .ldc 166, 22), (22, .invokespecial 136, 25), (25, .athrow, 26), (26, .aload_n 0, 27), (27, .getfield 23, 30), (30, .iload_n 3, 31), (31, .iload_n 2, 32), (32, .invokevirtual 168, 35), (35, .ireturn, 36)]
def k_103 : List (Nat × Instr × Nat) := [(0, .aload_n 0, 1), (1, .getfield 23, 4), (4, .iload_n 1, 5), (5, .invokevirtual 171, 8), (8, .istore_n 2, 9), (9, .iload_n 2, 10), (10, .ifCond .ge 23, 13), (13, .new 174, 16), (16, .dup, 17), (17, .ldc 176, 19), (19, .invokespecial 178, 22), (22, .athrow, 23), (23, .iload_n 2, 24), (24, .ireturn, 25)]
def k_104 : List (Nat × Instr × Nat) := [(0, .aload_n 0, 1), (1, .iload_n 1, 2), (2, .invokevirtual 163, 5), (5, .istore_n 3, 6), (6, .aload_n 0, 7), (7, .getfield 23, 10), (10, .iload_n 3, 11), (11, .iload_n 2, 12), (12, .invokevirtual 179, 15), (15, .ifCond .ne 28, 18), (18, .new 174, 21), (21, .dup, 22), (22, .ldc 183, 24), (24, .invokespecial 178, 27), (27, .athrow, 28), (28, .iload_n 3, 29), (29, .ireturn, 30)]
def k_105 : List (Nat × Instr × Nat) := [(0, .iload_n 1, 1), (1, .ifCond .lt 15, 4), (4, .iload_n 1, 5), (5, .aload_n 0, 6), (6, .getfield 23, 9), (9, .getfield 129, 12), (12, .if_icmp .lt 25, 15), (15, .new 151, 18), (18, .dup, 19), (19, .ldc 185, 21), (21, .invokespecial 155, 24), (24, .athrow, 25), (25, .aload_n 0, 26), (26, .getfield 23, 29), (29, .getfield 187, 32), (32, .iload_n 1, 33), (33, .iaload, 34), (34, .ireturn, 35)]
def k_106 : List (Nat × Instr × Nat) := [(0, .aload_n 0, 1), (1, .getfield 23, 4), (4, .aload_n 0, 5), (5, .iload_n 1, 6), (6, .iload_n 2, 7), (7, .invokevirtual 191, 10), (10, .iload_n 2, 11), (11, .invokevirtual 194, 14), (14, .istore_n 3, 15), (15, .iload_n 3, 16), (16, .ifCond .ge 23, 19), (19, .iconst (-1), 20), (20, .goto 32, 23), (23, .aload_n 0, 24), (24, .getfield 23, 27), (27, .getfield 187, 30), (30, .iload_n 3, 31), (31, .iaload, 32), (32, .ireturn, 33)]
def k_107 : List (Nat × Instr × Nat) := [(0, .aload_n 0, 1), (1, .iload_n 1, 2), (2, .invokevirtual 197, 5), (5, .aload_n 0, 6), (6, .iload_n 2, 7), (7, .invokevirtual 106, 10), (10, .aload_n 0, 11), (11, .getfield 12, 14), (14, .iload_n 2, 15), (15, .invokevirtual 109, 18), (18, .aload_n 0, 19), (19, .getfield 39, 22), (22, .aload_n 0, 23), (23, .getfield 12, 26), (26, .iload_n 1, 27), (27, .invokevirtual 200, 30), (30, .ifCond .eq 47, 33), (33, .aload_n 0, 34), (34, .getfield 12, 37), (37, .invokevirtual 204, 40), (40, .ifCond .eq 47, 43), (43, .iconst 1, 44), (44, .goto 48, 47), (47, .iconst 0, 48), (48, .istore_n 3, 49), (49, .aload_n 0, 50), (50, .aload_n 0, 51), (51, .getfield 12, 54), (54, .getfield 119, 57), (57, .putfield 16, 60), (60, .iload_n 3, 61), (61, .ifCond .eq 93, 64), (64, .bipush 100, 66), (66, .aload_n 0, 67), (67, .getfield 23, 70), (70, .getfield 187, 73), (73, .aload_n 0, 74), (74, .getfield 39, 77), (77, .getfield 207, 80), (80, .iaload, 81), (81, .imul, 82), (82, .aload_n 0, 83), (83, .getfield 39, 86), (86, .getfield 210, 89), (89, .iadd, 90), (90, .goto 100, 93), (93, .aload_n 0, 94), (94, .getfield 12, 97), (97, .getfield 120, 100), (100, .ireturn, 101)]
def k_108 : List (Nat × Instr × Nat) := [(0, .iload_n 1, 1), (1, .ifCond .lt 15, 4), (4, .iload_n 1, 5), (5, .aload_n 0, 6), (6, .getfield 23, 9), (9, .getfield 213, 12), (12, .if_icmp .lt 25, 15), (15, .new 151, 18), (18, .dup, 19), (19, .ldc 216, 21), (21, .invokespecial 155, 24), (24, .athrow, 25), (25, .return_, 26)]
def k_109 : List (Nat × Instr × Nat) := [(0, .aload_n 0, 1), (1, .iload_n 1, 2), (2, .invokevirtual 197, 5), (5, .aload_n 0, 6), (6, .getfield 53, 9), (9, .iload_n 1, 10), (10, .invokevirtual 218, 13), (13, .ireturn, 14)]
def k_110 : List (Nat × Instr × Nat) := [(0, .aload_n 0, 1), (1, .iload_n 1, 2), (2, .iload_n 2, 3), (3, .invokevirtual 191, 6), (6, .istore_n 3, 7), (7, .aload_n 0, 8), (8, .getfield 53, 11), (11, .aload_n 0, 12), (12, .getfield 23, 15), (15, .getfield 221, 18), (18, .iload_n 3, 19), (19, .iaload, 20), (20, .invokevirtual 218, 23), (23, .pop, 24), (24, .aload_n 0, 25), (25, .getfield 53, 28), (28, .iload_n 3, 29), (29, .iload_n 2, 30), (30, .invokevirtual 224, 33), (33, .ireturn, 34)]
def k_111 : List (Nat × Instr × Nat) := [(0, .aload_n 0, 1), (1, .getfield 46, 4), (4, .aload_n 0, 5), (5, .iload_n 1, 6), (6, .invokevirtual 163, 9), (9, .invokevirtual 227, 12), (12, .aload_n 0, 13), (13, .getfield 46, 16), (16, .getfield 230, 19), (19, .ireturn, 20)]
def k_112 : List (Nat × Instr × Nat) := [(0, .aload_n 0, 1), (1, .iload_n 1, 2), (2, .iload_n 2, 3), (3, .invokevirtual 191, 6), (6, .istore_n 3, 7), (7, .aload_n 0, 8), (8, .getfield 23, 11), (11, .iload_n 3, 12), (12, .iload_n 2, 13), (13, .invokevirtual 194, 16), (16, .ifCond .ge 34, 19), (19, .iconst 1, 20), (20, .aload_n 0, 21), (21, .getfield 32, 24), (24, .iload_n 3, 25), (25, .iload_n 2, 26), (26, .iconst (-1), 27), (27, .invokevirtual 231, 30), (30, .iadd, 31), (31, .goto 35, 34), (34, .iconst 0, 35), (35, .ireturn, 36)]
def k_113 : List (Nat × Instr × Nat) := [(0, .aload_n 0, 1), (1, .getfield 60, 4), (4, .aload_n 0, 5), (5, .iload_n 1, 6), (6, .invokevirtual 163, 9), (9, .invokevirtual 235, 12), (12, .ireturn, 13)]
def k_114 : List (Nat × Instr × Nat) := [(0, .iload_n 1, 1), (1, .ifCond .lt 15, 4), (4, .iload_n 1, 5), (5, .aload_n 0, 6), (6, .getfield 60, 9), (9, .getfield 238, 12), (12, .if_icmp .lt 25, 15), (15, .new 151, 18), (18, .dup, 19), (19, .ldc 241, 21), (21, .invokespecial 155, 24), (24, .athrow, 25), (25, .aload_n 0, 26), (26, .getfield 60, 29), (29, .getfield 243, 32), (32, .iload_n 1, 33), (33, .baload, 34), (34, .ireturn, 35)]
def k_115 : List (Nat × Instr × Nat) := [(0, .aload_n 0, 1), (1, .iload_n 1, 2), (2, .iload_n 2, 3), (3, .invokevirtual 191, 6), (6, .istore 4, 8), (8, .aload_n 0, 9), (9, .iload_n 3, 10), (10, .invokevirtual 145, 13), (13, .aload_n 0, 14), (14, .getfield 79, 17), (17, .aload_n 0, 18), (18, .getfield 23, 21), (21, .invokevirtual 123, 24), (24, .aload_n 0, 25), (25, .getfield 32, 28), (28, .iload 4, 30), (30, .iload_n 2, 31), (31, .iload_n 3, 32), (32, .invokevirtual 247, 35), (35, .ireturn, 36)]
def k_116 : List (Nat × Instr × Nat) := [(0, .aload_n 0, 1), (1, .iload_n 1, 2), (2, .iload_n 2, 3), (3, .invokevirtual 191, 6), (6, .istore 5, 8), (8, .aload_n 0, 9), (9, .iload_n 3, 10), (10, .iload 4, 12), (12, .invokevirtual 191, 15), (15, .istore 6, 17), (17, .aload_n 0, 18), (18, .getfield 79, 21), (21, .aload_n 0, 22), (22, .getfield 23, 25), (25, .invokevirtual 123, 28), (28, .aload_n 0, 29), (29, .getfield 32, 32), (32, .iload 5, 34), (34, .iload_n 2, 35), (35, .iload 6, 37), (37, .iload 4, 39), (39, .invokevirtual 250, 42), (42, .ireturn, 43)]
def k_117 : List (Nat × Instr × Nat) := [(0, .aload_n 0, 1), (1, .iload_n 1, 2), (2, .invokevirtual 163, 5), (5, .istore 4, 7), (7, .aload_n 0, 8), (8, .iload_n 2, 9), (9, .iload_n 3, 10), (10, .invokevirtual 191, 13), (13, .istore 5, 15), (15, .aload_n 0, 16), (16, .getfield 79, 19), (19, .aload_n 0, 20), (20, .getfield 23, 23), (23, .invokevirtual 123, 26), (26, .aload_n 0, 27), (27, .getfield 32, 30), (30, .iload 4, 32), (32, .iload 5, 34), (34, .iload_n 3, 35), (35, .invokevirtual 254, 38), (38, .ireturn, 39)]
def k_118 : List (Nat × Instr × Nat) := [(0, .aload_n 0, 1), (1, .iload_n 1, 2), (2, .invokevirtual 163, 5), (5, .istore_n 2, 6), (6, .aload_n 0, 7), (7, .getfield 79, 10), (10, .aload_n 0, 11), (11, .getfield 23, 14), (14, .invokevirtual 123, 17), (17, .aload_n 0, 18), (18, .getfield 32, 21), (21, .iload_n 2, 22), (22, .invokevirtual 257, 25), (25, .ireturn, 26)]
def k_119 : List (Nat × Instr × Nat) := [(0, .aload_n 0, 1), (1, .iload_n 1, 2), (2, .invokevirtual 163, 5), (5, .istore_n 3, 6), (6, .iload_n 2, 7), (7, .ifCond .lt 15, 10), (10, .iload_n 2, 11), (11, .iconst 3, 12), (12, .if_icmp .le 26, 15), (15, .new 132, 18), (18, .dup, 19), (19, .ldc_w 260, 22), (22, .invokespecial 136, 25), (25, .athrow, 26), (26, .aload_n 0, 27), (27, .getfield 79, 30), (30, .aload_n 0, 31), (31, .getfield 23, 34), (34, .invokevirtual 123, 37), (37, .aload_n 0, 38), (38, .getfield 32, 41), (41, .iload_n 3, 42), (42, .iload_n 2, 43), (43, .invokevirtual 262, 46), (46, .ireturn, 47)]
def k_120 : List (Nat × Instr × Nat) := [(0, .aload_n 0, 1), (1, .iload_n 1, 2), (2, .invokevirtual 197, 5), (5, .aload_n 0, 6), (6, .getfield 79, 9), (9, .aload_n 0, 10), (10, .getfield 23, 13), (13, .invokevirtual 123, 16), (16, .aload_n 0, 17), (17, .getfield 32, 20), (20, .iload_n 1, 21), (21, .iload_n 2, 22), (22, .invokevirtual 265, 25), (25, .ireturn, 26)]
def k_121 : List (Nat × Instr × Nat) := [(0, .aload_n 0, 1), (1, .getfield 23, 4), (4, .getfield 213, 7), (7, .iconst 1, 8), (8, .if_icmp .gt 22, 11), (11, .new 269, 14), (14, .dup, 15), (15, .ldc_w 271, 18), (18, .invokespecial 273, 21), (21, .athrow, 22), (22, .aload_n 0, 23), (23, .getfield 79, 26), (26, .aload_n 0, 27), (27, .getfield 23, 30), (30, .invokevirtual 123, 33), (33, .aload_n 0, 34), (34, .getfield 32, 37), (37, .invokevirtual 274, 40), (40, .ireturn, 41)]
def k_122 : List (Nat × Instr × Nat) := [(0, .aload_n 0, 1), (1, .getfield 79, 4), (4, .getfield 278, 7), (7, .ifCond .ne 12, 10), (10, .iconst (-1), 11), (11, .ireturn, 12), (12, .aload_n 0, 13), (13, .getfield 79, 16), (16, .aload_n 0, 17), (17, .getfield 23, 20), (20, .invokevirtual 279, 23), (23, .aload_n 0, 24), (24, .getfield 79, 27), (27, .getfield 278, 30), (30, .ireturn, 31)]
def k_123 : List (Nat × Instr × Nat) := [(0, .lconst 0, 1), (1, .lstore_n 1, 2), (2, .iconst 0, 3), (3, .istore_n 3, 4), (4, .iload_n 3, 5), (5, .bipush 8, 7), (7, .if_icmp .gt 32, 10), (10, .ldc2_w 282, 13), (13, .lload_n 1, 14), (14, .lmul, 15), (15, .aload_n 0, 16), (16, .getfield 23, 19), (19, .iload_n 3, 20), (20, .invokevirtual 141, 23), (23, .i2l, 24), (24, .ladd, 25), (25, .lstore_n 1, 26), (26, .iinc 3 1, 29), (29, .goto 4, 32), (32, .aload_n 0, 33), (33, .lload_n 1, 34), (34, .invokevirtual 284, 37), (37, .lstore_n 1, 38), (38, .iconst 0, 39), (39, .istore_n 3, 40), (40, .iload_n 3, 41), (41, .aload_n 0, 42), (42, .getfield 23, 45), (45, .getfield 129, 48), (48, .if_icmp .ge 64, 51), (51, .aload_n 0, 52), (52, .lload_n 1, 53), (53, .iload_n 3, 54), (54, .invokevirtual 288, 57), (57, .lstore_n 1, 58), (58, .iinc 3 1, 61), (61, .goto 40, 64), (64, .iconst 0, 65), (65, .istore_n 3, 66), (66, .iload_n 3, 67), (67, .aload_n 0, 68), (68, .getfield 23, 71), (71, .getfield 213, 74), (74, .if_icmp .ge 99, 77), (77, .ldc2_w 282, 80), (80, .lload_n 1, 81), (81, .lmul, 82), (82, .aload_n 0, 83), (83, .getfield 53, 86), (86, .iload_n 3, 87), (87, .invokevirtual 218, 90), (90, .i2l, 91), (91, .ladd, 92), (92, .lstore_n 1, 93), (93, .iinc 3 1, 96), (96, .goto 66, 99), (99, .lload_n 1, 100), (100, .lreturn, 101)]
def k_124 : List (Nat × Instr × Nat) := [(0, .lload_n 1, 1), (1, .lstore_n 3, 2), (2, .iconst 0, 3), (3, .istore 5, 5), (5, .iload 5, 7), (7, .aload_n 0, 8), (8, .getfield 23, 11), (11, .getfield 83, 14), (14, .getfield 160, 17), (17, .if_icmp .ge 88, 20), (20, .aload_n 0, 21), (21, .getfield 23, 24), (24, .getfield 83, 27), (27, .iload 5, 29), (29, .invokevirtual 148, 32), (32, .istore 6, 34), (34, .ldc2_w 282, 37), (37, .lload_n 3, 38), (38, .lmul, 39), (39, .iload 6, 41), (41, .i2l, 42), (42, .ladd, 43), (43, .lstore_n 3, 44), (44, .iconst 0, 45), (45, .istore 7, 47), (47, .iload 7, 49), (49, .iload 6, 51), (51, .if_icmp .ge 82, 54), (54, .ldc2_w 282, 57), (57, .lload_n 3, 58), (58, .lmul, 59), (59, .aload_n 0, 60), (60, .getfield 23, 63), (63, .getfield 83, 66), (66, .iload 5, 68), (68, .iload 7, 70), (70, .invokevirtual 156, 73), (73, .i2l, 74), (74, .ladd, 75), (75, .lstore_n 3, 76), (76, .iinc 7 1, 79), (79, .goto 47, 82), (82, .iinc 5 1, 85), (85, .goto 5, 88), (88, .lload_n 3, 89), (89, .lreturn, 90)]
def k_125 : List (Nat × Instr × Nat) := [(0, .ldc2_w 282, 3), (3, .lload_n 1, 4), (4, .lmul, 5), (5, .aload_n 0, 6), (6, .getfield 23, 9), (9, .getfield 187, 12), (12, .iload_n 3, 13), (13, .iaload, 14), (14, .i2l, 15), (15, .ladd, 16), (16, .lstore 4, 18), (18, .iconst 0, 19), (19, .istore 6, 21), (21, .iload 6, 23), (23, .bipush 8, 25), (25, .if_icmp .gt 54, 28), (28, .ldc2_w 282, 31), (31, .lload 4, 33), (33, .lmul, 34), (34, .aload_n 0, 35), (35, .getfield 23, 38), (38, .iload_n 3, 39), (39, .iload 6, 41), (41, .invokevirtual 168, 44), (44, .i2l, 45), (45, .ladd, 46), (46, .lstore 4, 48), (48, .iinc 6 1, 51), (51, .goto 21, 54), (54, .aload_n 0, 55), (55, .getfield 46, 58), (58, .iload_n 3, 59), (59, .invokevirtual 227, 62), (62, .ldc2_w 282, 65), (65, .lload 4, 67), (67, .lmul, 68), (68, .aload_n 0, 69), (69, .getfield 46, 72), (72, .getfield 230, 75), (75, .i2l, 76), (76, .ladd, 77), (77, .lreturn, 78)]
def k_126 : List (Nat × Instr × Nat) := [(0, .aload_n 0, 1), (1, .invokespecial 1, 4), (4, .aload_n 0, 5), (5, .sipush 7800, 8), (8, .newarray .int, 10), (10, .putfield 7, 13), (13, .aload_n 0, 14), (14, .bipush 40, 16), (16, .newarray .boolean, 18), (18, .putfield 13, 21), (21, .aload_n 0, 22), (22, .bipush 40, 24), (24, .newarray .int, 26), (26, .putfield 17, 29), (29, .aload_n 0, 30), (30, .bipush 40, 32), (32, .newarray .int, 34), (34, .putfield 20, 37), (37, .aload_n 0, 38), (38, .bipush 40, 40), (40, .newarray .int, 42), (42, .putfield 23, 45), (45, .aload_n 0, 46), (46, .bipush 40, 48), (48, .newarray .int, 50), (50, .putfield 26, 53), (53, .aload_n 0, 54), (54, .bipush 40, 56), (56, .newarray .int, 58), (58, .putfield 29, 61), (61, .aload_n 0, 62), (62, .sipush 600, 65), (65, .newarray .int, 67), (67, .putfield 32, 70), (70, .aload_n 0, 71), (71, .iconst (-1), 72), (72, .putfield 35, 75), (75, .aload_n 0, 76), (76, .sipush 480, 79), (79, .newarray .boolean, 81), (81, .putfield 39, 84), (84, .aload_n 0, 85), (85, .sipush 2000, 88), (88, .newarray .int, 90), (90, .putfield 42, 93), (93, .aload_n 0, 94), (94, .bipush 42, 96), (96, .newarray .int, 98), (98, .putfield 45, 101), (101, .aload_n 0, 102), (102, .bipush 12, 104), (104, .newarray .int, 106), (106, .putfield 48, 109), (109, .aload_n 0, 110), (110, .iconst 0, 111), (111, .iconst 1, 112), (112, .invokevirtual 51, 115), (115, .aload_n 0, 116), (116, .iconst 0, 117), (117, .invokevirtual 55, 120), (120, .aload_n 0, 121), (121, .iconst 0, 122), (122, .invokevirtual 59, 125), (125, .return_, 126)]
def k_127 : List (Nat × Instr × Nat) := [(0, .aload_n 0, 1), (1, .getfield 62, 4), (4, .ireturn, 5)]
def k_128 : List (Nat × Instr × Nat) := [(0, .lload_n 0, 1), (1, .lload_n 2, 2), (2, .lcmp, 3), (3, .ifCond .lt 17, 6), (6, .lload_n 0, 7), (7, .lload 4, 9), (9, .lcmp, 10), (10, .ifCond .gt 17, 13), (13, .iconst 1, 14), (14, .goto 18, 17), (17, .iconst 0, 18), (18, .ireturn, 19)]
def k_129 : List (Nat × Instr × Nat) := [(0, .aload_n 0, 1), (1, .getfield 7, 4), (4, .sipush 780, 7), (7, .aload_n 0, 8), (8, .getfield 65, 11), (11, .imul, 12), (12, .iload_n 1, 13), (13, .iadd, 14), (14, .iaload, 15), (15, .ireturn, 16)]
def k_130 : List (Nat × Instr × Nat) := [(0, .aload_n 0, 1), (1, .getfield 7, 4), (4, .sipush 780, 7), (7, .aload_n 0, 8), (8, .getfield 65, 11), (11, .imul, 12), (12, .iload_n 1, 13), (13, .iadd, 14), (14, .iload_n 2, 15), (15, .iastore, 16), (16, .return_, 17)]
def k_131 : List (Nat × Instr × Nat) := [(0, .aload_n 0, 1), (1, .getfield 7, 4), (4, .sipush 780, 7), (7, .aload_n 0, 8), (8, .getfield 65, 11), (11, .imul, 12), (12, .iload_n 1, 13), (13, .iadd, 14), (14, .dup2, 15), (15, .iaload, 16), (16, .iload_n 2, 17), (17, .iadd, 18), (18, .iastore, 19), (19, .return_, 20)]
def k_132 : List (Nat × Instr × Nat) := [(0, .iconst 0, 1), (1, .istore_n 3, 2), (2, .iload_n 3, 3), (3, .sipush 780, 6), (6, .if_icmp .ge 39, 9), (9, .aload_n 0, 10), (10, .getfield 7, 13), (13, .sipush 780, 16), (16, .iload_n 2, 17), (17, .imul, 18), (18, .iload_n 3, 19), (19, .iadd, 20), (20, .aload_n 0, 21), (21, .getfield 7, 24), (24, .sipush 780, 27), (27, .iload_n 1, 28), (28, .imul, 29), (29, .iload_n 3, 30), (30, .iadd, 31), (31, .iaload, 32), (32, .iastore, 33), (33, .iinc 3 1, 36), (36, .goto 2, 39), (39, .return_, 40)]
def k_133 : List (Nat × Instr × Nat) := [(0, .aload_n 0, 1), (1, .getfield 65, 4), (4, .iconst 1, 5), (5, .iadd, 6), (6, .bipush 9, 8), (8, .irem, 9), (9, .istore_n 1, 10), (10, .aload_n 0, 11), (11, .aload_n 0, 12), (12, .getfield 65, 15), (15, .iload_n 1, 16), (16, .invokevirtual 68, 19), (19, .aload_n 0, 20), (20, .iload_n 1, 21), (21, .putfield 65, 24), (24, .aload_n 0, 25), (25, .aload_n 0, 26), (26, .getfield 71, 29), (29, .bipush 8, 31), (31, .if_icmp .ge 43, 34), (34, .aload_n 0, 35), (35, .getfield 71, 38), (38, .iconst 1, 39), (39, .iadd, 40), (40, .goto 47, 43), (43, .aload_n 0, 44), (44, .getfield 71, 47), (47, .putfield 71, 50), (50, .return_, 51)]
def k_134 : List (Nat × Instr × Nat) := [(0, .aload_n 0, 1), (1, .getfield 62, 4), (4, .ifCond .ne 16, 7), (7, .iload_n 1, 8), (8, .ifCond .ne 16, 11), (11, .aload_n 0, 12), (12, .iload_n 2, 13), (13, .putfield 62, 16), (16, .aload_n 0, 17), (17, .getfield 62, 20), (20, .ifCond .ne 27, 23), (23, .iconst 1, 24), (24, .goto 28, 27), (27, .iconst 0, 28), (28, .ireturn, 29)]
def k_135 : List (Nat × Instr × Nat) := [(0, .iconst 5, 1), (1, .bipush 7, 3), (3, .iload_n 0, 4), (4, .imul, 5), (5, .iadd, 6), (6, .iload_n 1, 7), (7, .iadd, 8), (8, .ireturn, 9)]
def k_136 : List (Nat × Instr × Nat) := [(0, .bipush 33, 2), (2, .bipush 7, 4), (4, .bipush 12, 6), (6, .iload_n 0, 7), (7, .imul, 8), (8, .iload_n 1, 9), (9, .iadd, 10), (10, .imul, 11), (11, .iadd, 12), (12, .iload_n 2, 13), (13, .iadd, 14), (14, .ireturn, 15)]
def k_137 : List (Nat × Instr × Nat) := [(0, .sipush 369, 3), (3, .bipush 10, 5), (5, .iload_n 0, 6), (6, .imul, 7), (7, .iadd, 8), (8, .iload_n 1, 9), (9, .iadd, 10), (10, .ireturn, 11)]
def k_138 : List (Nat × Instr × Nat) := [(0, .aload_n 0, 1), (1, .iload_n 1, 2), (2, .iload_n 2, 3), (3, .invokestatic 74, 6), (6, .invokevirtual 78, 9), (9, .ireturn, 10)]
def k_139 : List (Nat × Instr × Nat) := [(0, .aload_n 0, 1), (1, .iload_n 1, 2), (2, .bipush 6, 4), (4, .invokestatic 82, 7), (7, .invokevirtual 78, 10), (10, .ireturn, 11)]
def k_140 : List (Nat × Instr × Nat) := [(0, .aload_n 0, 1), (1, .iload_n 1, 2), (2, .iload_n 2, 3), (3, .bipush 6, 5), (5, .invokestatic 85, 8), (8, .invokevirtual 78, 11), (11, .ireturn, 12)]
def k_141 : List (Nat × Instr × Nat) := [(0, .aload_n 0, 1), (1, .iload_n 1, 2), (2, .bipush 6, 4), (4, .invokestatic 82, 7), (7, .iconst 1, 8), (8, .invokevirtual 51, 11), (11, .aload_n 0, 12), (12, .iload_n 1, 13), (13, .iconst 0, 14), (14, .bipush 6, 16), (16, .invokestatic 85, 19), (19, .iconst (-1), 20), (20, .invokevirtual 51, 23), (23, .return_, 24)]
def k_142 : List (Nat × Instr × Nat) := [(0, .aload_n 0, 1), (1, .iconst 1, 2), (2, .iconst 1, 3), (3, .invokevirtual 51, 6), (6, .aload_n 0, 7), (7, .iconst 0, 8), (8, .iload_n 1, 9), (9, .iconst 0, 10), (10, .invokevirtual 89, 13), (13, .istore_n 2, 14), (14, .return_, 15)]
def k_143 : List (Nat × Instr × Nat) := [(0, .aload_n 0, 1), (1, .iconst 2, 2), (2, .invokevirtual 78, 5), (5, .istore 4, 7), (7, .iconst 0, 8), (8, .istore 5, 10), (10, .iload 5, 12), (12, .bipush 10, 14), (14, .if_icmp .ge 35, 17), (17, .aload_n 0, 18), (18, .iload 4, 20), (20, .iload 5, 22), (22, .invokestatic 74, 25), (25, .iconst 0, 26), (26, .invokevirtual 51, 29), (29, .iinc 5 1, 32), (32, .goto 10, 35), (35, .aload_n 0, 36), (36, .iload 4, 38), (38, .iconst 0, 39), (39, .invokestatic 74, 42), (42, .aload_n 0, 43), (43, .iconst 3, 44), (44, .invokevirtual 78, 47), (47, .invokevirtual 51, 50), (50, .aload_n 0, 51), (51, .iload 4, 53), (53, .iconst 1, 54), (54, .invokestatic 74, 57), (57, .iload_n 1, 58), (58, .invokevirtual 51, 61), (61, .aload_n 0, 62), (62, .iload 4, 64), (64, .iconst 2, 65), (65, .invokestatic 74, 68), (68, .iload_n 2, 69), (69, .invokevirtual 51, 72), (72, .aload_n 0, 73), (73, .iload 4, 75), (75, .iconst 3, 76), (76, .invokestatic 74, 79), (79, .iload_n 3, 80), (80, .invokevirtual 51, 83), (83, .aload_n 0, 84), (84, .iload 4, 86), (86, .iconst 4, 87), (87, .invokestatic 74, 90), (90, .iconst (-1), 91), (91, .invokevirtual 51, 94), (94, .aload_n 0, 95), (95, .iload 4, 97), (97, .iconst 5, 98), (98, .invokestatic 74, 101), (101, .iconst (-1), 102), (102, .invokevirtual 51, 105), (105, .aload_n 0, 106), (106, .iconst 2, 107), (107, .iconst 1, 108), (108, .invokevirtual 92, 111), (111, .aload_n 0, 112), (112, .iconst 3, 113), (113, .iconst 1, 114), (114, .invokevirtual 92, 117), (117, .iload 4, 119), (119, .ireturn, 120)]
def k_144 : List (Nat × Instr × Nat) := [(0, .iconst 0, 1), (1, .istore_n 2, 2), (2, .iload_n 2, 3), (3, .aload_n 0, 4), (4, .iconst 2, 5), (5, .invokevirtual 78, 8), (8, .if_icmp .ge 29, 11), (11, .aload_n 0, 12), (12, .iload_n 2, 13), (13, .iconst 0, 14), (14, .invokevirtual 95, 17), (17, .iload_n 1, 18), (18, .if_icmp .ne 23, 21), (21, .iload_n 2, 22), (22, .ireturn, 23), (23, .iinc 2 1, 26), (26, .goto 2, 29), (29, .iconst (-1), 30), (30, .ireturn, 31)]
def k_145 : List (Nat × Instr × Nat) := [(0, .iload_n 2, 1), (1, .istore 4, 3), (3, .iload 4, 5), (5, .iconst (-1), 6), (6, .if_icmp .eq 27, 9), (9, .iload 4, 11), (11, .iload_n 3, 12), (12, .if_icmp .eq 27, 15), (15, .aload_n 0, 16), (16, .iload_n 1, 17), (17, .iload 4, 19), (19, .invokevirtual 98, 22), (22, .istore 4, 24), (24, .goto 3, 27), (27, .iload 4, 29), (29, .iload_n 3, 30), (30, .if_icmp .ne 37, 33), (33, .iconst 1, 34), (34, .goto 38, 37), (37, .iconst 0, 38), (38, .ireturn, 39)]
def k_146 : List (Nat × Instr × Nat) := [(0, .iload_n 2, 1), (1, .i2l, 2), (2, .lconst 0, 3), (3, .aload_n 0, 4), (4, .aload_n 0, 5), (5, .iload_n 1, 6), (6, .iconst 2, 7), (7, .invokevirtual 95, 10), (10, .invokevirtual 101, 13), (13, .iconst 1, 14), (14, .isub, 15), (15, .i2l, 16), (16, .invokestatic 104, 19), (19, .ifCond .eq 46, 22), (22, .aload_n 0, 23), (23, .aload_n 0, 24), (24, .iload_n 1, 25), (25, .iconst 2, 26), (26, .invokevirtual 95, 29), (29, .iload_n 2, 30), (30, .aload_n 0, 31), (31, .iload_n 1, 32), (32, .iconst 3, 33), (33, .invokevirtual 95, 36), (36, .invokevirtual 108, 39), (39, .ifCond .eq 46, 42), (42, .iconst 1, 43), (43, .goto 47, 46), (46, .iconst 0, 47), (47, .ireturn, 48)]
def k_147 : List (Nat × Instr × Nat) := [(0, .iconst 0, 1), (1, .istore_n 3, 2), (2, .iload_n 3, 3), (3, .aload_n 0, 4), (4, .iconst 2, 5), (5, .invokevirtual 78, 8), (8, .if_icmp .ge 44, 11), (11, .aload_n 0, 12), (12, .iload_n 3, 13), (13, .iconst 4, 14), (14, .invokevirtual 95, 17), (17, .aload_n 0, 18), (18, .iload_n 1, 19), (19, .iconst 0, 20), (20, .invokevirtual 95, 23), (23, .if_icmp .ne 38, 26), (26, .aload_n 0, 27), (27, .iload_n 3, 28), (28, .iconst 5, 29), (29, .invokevirtual 95, 32), (32, .iload_n 2, 33), (33, .if_icmp .ne 38, 36), (36, .iload_n 3, 37), (37, .ireturn, 38), (38, .iinc 3 1, 41), (41, .goto 2, 44), (44, .iconst (-1), 45), (45, .ireturn, 46)]
def k_148 : List (Nat × Instr × Nat) := [(0, .iconst 0, 1), (1, .istore_n 2, 2), (2, .iload_n 2, 3), (3, .aload_n 0, 4), (4, .iconst 2, 5), (5, .invokevirtual 78, 8), (8, .if_icmp .ge 34, 11), (11, .aload_n 0, 12), (12, .iload_n 2, 13), (13, .iconst 4, 14), (14, .invokevirtual 95, 17), (17, .aload_n 0, 18), (18, .iload_n 1, 19), (19, .iconst 0, 20), (20, .invokevirtual 95, 23), (23, .if_icmp .ne 28, 26), (26, .iconst 1, 27), (27, .ireturn, 28), (28, .iinc 2 1, 31), (31, .goto 2, 34), (34, .iconst 0, 35), (35, .ireturn, 36)]
def k_149 : List (Nat × Instr × Nat) := [(0, .iload_n 1, 1), (1, .istore_n 3, 2), (2, .iload_n 3, 3), (3, .iconst (-1), 4), (4, .if_icmp .eq 40, 7), (7, .iload_n 3, 8), (8, .iload_n 2, 9), (9, .if_icmp .eq 40, 12), (12, .aload_n 0, 13), (13, .iload_n 3, 14), (14, .iconst 4, 15), (15, .invokevirtual 95, 18), (18, .iconst (-1), 19), (19, .if_icmp .ne 26, 22), (22, .iconst (-1), 23), (23, .goto 36, 26), (26, .aload_n 0, 27), (27, .aload_n 0, 28), (28, .iload_n 3, 29), (29, .iconst 4, 30), (30, .invokevirtual 95, 33), (33, .invokevirtual 112, 36), (36, .istore_n 3, 37), (37, .goto 2, 40), (40, .iload_n 3, 41), (41, .iload_n 2, 42), (42, .if_icmp .ne 49, 45), (45, .iconst 1, 46), (46, .goto 50, 49), (49, .iconst 0, 50), (50, .ireturn, 51)]
def k_150 : List (Nat × Instr × Nat) := [(0, .aload_n 0, 1), (1, .iconst 2, 2), (2, .iconst (-1), 3), (3, .invokevirtual 92, 6), (6, .iload_n 1, 7), (7, .iconst 0, 8), (8, .invokestatic 74, 11), (11, .istore_n 2, 12), (12, .iload_n 2, 13), (13, .aload_n 0, 14), (14, .iconst 2, 15), (15, .invokevirtual 78, 18), (18, .iconst 0, 19), (19, .invokestatic 74, 22), (22, .if_icmp .ge 44, 25), (25, .aload_n 0, 26), (26, .iload_n 2, 27), (27, .aload_n 0, 28), (28, .iload_n 2, 29), (29, .bipush 10, 31), (31, .iadd, 32), (32, .invokevirtual 78, 35), (35, .invokevirtual 51, 38), (38, .iinc 2 1, 41), (41, .goto 12, 44), (44, .return_, 45)]
def k_151 : List (Nat × Instr × Nat) := [(0, .aload_n 0, 1), (1, .getfield 13, 4), (4, .iload_n 1, 5), (5, .baload, 6), (6, .ifCond .eq 11, 9), (9, .iconst 0, 10), (10, .ireturn, 11), (11, .iconst 0, 12), (12, .istore_n 2, 13), (13, .iload_n 2, 14), (14, .aload_n 0, 15), (15, .iconst 2, 16), (16, .invokevirtual 78, 19), (19, .if_icmp .ge 83, 22), (22, .aload_n 0, 23), (23, .getfield 13, 26), (26, .iload_n 2, 27), (27, .baload, 28), (28, .ifCond .eq 77, 31), (31, .aload_n 0, 32), (32, .iload_n 2, 33), (33, .bipush 6, 35), (35, .invokevirtual 95, 38), (38, .ifCond .le 77, 41), (41, .aload_n 0, 42), (42, .iload_n 1, 43), (43, .bipush 6, 45), (45, .invokevirtual 95, 48), (48, .aload_n 0, 49), (49, .iload_n 2, 50), (50, .bipush 6, 52), (52, .invokevirtual 95, 55), (55, .if_icmp .eq 75, 58), (58, .aload_n 0, 59), (59, .iload_n 1, 60), (60, .bipush 7, 62), (62, .invokevirtual 95, 65), (65, .aload_n 0, 66), (66, .iload_n 2, 67), (67, .bipush 6, 69), (69, .invokevirtual 95, 72), (72, .if_icmp .ne 77, 75), (75, .iconst 1, 76), (76, .ireturn, 77), (77, .iinc 2 1, 80), (80, .goto 13, 83), (83, .iconst 0, 84), (84, .ireturn, 85)]
def k_152 : List (Nat × Instr × Nat) := [(0, .iconst 0, 1), (1, .istore_n 2, 2), (2, .iload_n 2, 3), (3, .bipush 40, 5), (5, .if_icmp .ge 47, 8), (8, .aload_n 0, 9), (9, .getfield 13, 12), (12, .iload_n 2, 13), (13, .iconst 0, 14), (14, .bastore, 15), (15, .aload_n 0, 16), (16, .getfield 17, 19), (19, .iload_n 2, 20), (20, .iload_n 2, 21), (21, .aload_n 0, 22), (22, .iconst 2, 23), (23, .invokevirtual 78, 26), (26, .if_icmp .ge 39, 29), (29, .aload_n 0, 30), (30, .iload_n 2, 31), (31, .bipush 6, 33), (33, .invokevirtual 95, 36), (36, .goto 40, 39), (39, .iconst 0, 40), (40, .iastore, 41), (41, .iinc 2 1, 44), (44, .goto 2, 47), (47, .aload_n 0, 48), (48, .iload_n 1, 49), (49, .bipush 6, 51), (51, .invokevirtual 95, 54), (54, .ifCond .ne 59, 57), (57, .iconst 0, 58), (58, .ireturn, 59), (59, .aload_n 0, 60), (60, .getfield 13, 63), (63, .iload_n 1, 64), (64, .iconst 1, 65), (65, .bastore, 66), (66, .iconst 1, 67), (67, .istore_n 2, 68), (68, .iconst 1, 69), (69, .istore_n 3, 70), (70, .iload_n 3, 71), (71, .ifCond .eq 123, 74), (74, .iconst 0, 75), (75, .istore_n 3, 76), (76, .iconst 0, 77), (77, .istore 4, 79), (79, .iload 4, 81), (81, .aload_n 0, 82), (82, .iconst 2, 83), (83, .invokevirtual 78, 86), (86, .if_icmp .ge 120, 89), (89, .aload_n 0, 90), (90, .iload 4, 92), (92, .invokevirtual 115, 95), (95, .ifCond .ne 101, 98), (98, .goto 114, 101), (101, .aload_n 0, 102), (102, .getfield 13, 105), (105, .iload 4, 107), (107, .iconst 1, 108), (108, .bastore, 109), (109, .iinc 2 1, 112), (112, .iconst 1, 113), (113, .istore_n 3, 114), (114, .iinc 4 1, 117), (117, .goto 79, 120), (120, .goto 70, 123), (123, .iload_n 2, 124), (124, .ireturn, 125)]
def k_153 : List (Nat × Instr × Nat) := [(0, .aload_n 0, 1), (1, .getfield 13, 4), (4, .iload_n 1, 5), (5, .baload, 6), (6, .ifCond .eq 37, 9), (9, .iload_n 1, 10), (10, .iload_n 2, 11), (11, .if_icmp .eq 37, 14), (14, .aload_n 0, 15), (15, .iload_n 1, 16), (16, .iload_n 3, 17), (17, .invokevirtual 119, 20), (20, .ifCond .eq 37, 23), (23, .aload_n 0, 24), (24, .iload_n 1, 25), (25, .iload_n 3, 26), (26, .invokevirtual 123, 29), (29, .iconst (-1), 30), (30, .if_icmp .ne 37, 33), (33, .iconst 1, 34), (34, .goto 38, 37), (37, .iconst 0, 38), (38, .ireturn, 39)]
def k_154 : List (Nat × Instr × Nat) := [(0, .iconst 0, 1), (1, .istore_n 3, 2), (2, .iconst 0, 3), (3, .istore 4, 5), (5, .iload 4, 7), (7, .bipush 40, 9), (9, .if_icmp .ge 47, 12), (12, .iload 4, 14), (14, .aload_n 0, 15), (15, .iconst 2, 16), (16, .invokevirtual 78, 19), (19, .if_icmp .ge 47, 22), (22, .iload_n 3, 23), (23, .aload_n 0, 24), (24, .iload 4, 26), (26, .iload_n 1, 27), (27, .iload_n 2, 28), (28, .invokevirtual 126, 31), (31, .ifCond .eq 38, 34), (34, .iconst 1, 35), (35, .goto 39, 38), (38, .iconst 0, 39), (39, .iadd, 40), (40, .istore_n 3, 41), (41, .iinc 4 1, 44), (44, .goto 5, 47), (47, .iload_n 3, 48), (48, .ireturn, 49)]
def k_155 : List (Nat × Instr × Nat) := [(0, .aload_n 0, 1), (1, .iconst 4, 2), (2, .iconst 1, 3), (3, .invokevirtual 92, 6), (6, .aload_n 0, 7), (7, .iconst 4, 8), (8, .invokevirtual 78, 11), (11, .ireturn, 12)]
def k_156 : List (Nat × Instr × Nat) := [(0, .iconst 0, 1), (1, .istore_n 2, 2), (2, .iconst 0, 3), (3, .istore_n 3, 4), (4, .iload_n 3, 5), (5, .bipush 40, 7), (7, .if_icmp .ge 56, 10), (10, .aload_n 0, 11), (11, .getfield 13, 14), (14, .iload_n 3, 15), (15, .baload, 16), (16, .ifCond .eq 50, 19), (19, .aload_n 0, 20), (20, .getfield 17, 23), (23, .iload_n 3, 24), (24, .iaload, 25), (25, .iload_n 1, 26), (26, .if_icmp .le 50, 29), (29, .iload_n 2, 30), (30, .ifCond .eq 43, 33), (33, .aload_n 0, 34), (34, .getfield 17, 37), (37, .iload_n 3, 38), (38, .iaload, 39), (39, .iload_n 2, 40), (40, .if_icmp .ge 50, 43), (43, .aload_n 0, 44), (44, .getfield 17, 47), (47, .iload_n 3, 48), (48, .iaload, 49), (49, .istore_n 2, 50), (50, .iinc 3 1, 53), (53, .goto 4, 56), (56, .iload_n 2, 57), (57, .ireturn, 58)]
def k_157 : List (Nat × Instr × Nat) := [(0, .aload_n 0, 1), (1, .iconst 0, 2), (2, .putfield 129, 5), (5, .aload_n 0, 6), (6, .iconst 0, 7), (7, .invokevirtual 132, 10), (10, .istore_n 3, 11), (11, .iload_n 3, 12), (12, .ifCond .le 72, 15), (15, .aload_n 0, 16), (16, .getfield 20, 19), (19, .aload_n 0, 20), (20, .getfield 129, 23), (23, .iload_n 3, 24), (24, .iastore, 25), (25, .aload_n 0, 26), (26, .getfield 23, 29), (29, .aload_n 0, 30), (30, .getfield 129, 33), (33, .iload_n 3, 34), (34, .iload_n 2, 35), (35, .if_icmp .ne 48, 38), (38, .aload_n 0, 39), (39, .iload_n 1, 40), (40, .bipush 6, 42), (42, .invokevirtual 95, 45), (45, .goto 52, 48), (48, .aload_n 0, 49), (49, .invokevirtual 135, 52), (52, .iastore, 53), (53, .aload_n 0, 54), (54, .dup, 55), (55, .getfield 129, 58), (58, .iconst 1, 59), (59, .iadd, 60), (60, .putfield 129, 63), (63, .aload_n 0, 64), (64, .iload_n 3, 65), (65, .invokevirtual 132, 68), (68, .istore_n 3, 69), (69, .goto 11, 72), (72, .return_, 73)]
def k_158 : List (Nat × Instr × Nat) := [(0, .iconst 0, 1), (1, .istore_n 2, 2), (2, .iload_n 2, 3), (3, .aload_n 0, 4), (4, .getfield 129, 7), (7, .if_icmp .ge 33, 10), (10, .aload_n 0, 11), (11, .getfield 20, 14), (14, .iload_n 2, 15), (15, .iaload, 16), (16, .iload_n 1, 17), (17, .if_icmp .ne 27, 20), (20, .aload_n 0, 21), (21, .getfield 23, 24), (24, .iload_n 2, 25), (25, .iaload, 26), (26, .ireturn, 27), (27, .iinc 2 1, 30), (30, .goto 2, 33), (33, .iconst 0, 34), (34, .ireturn, 35)]
def k_159 : List (Nat × Instr × Nat) := [(0, .aload_n 0, 1), (1, .aload_n 0, 2), (2, .iload_n 1, 3), (3, .iconst 1, 4), (4, .invokevirtual 95, 7), (7, .aload_n 0, 8), (8, .iload_n 2, 9), (9, .iconst 2, 10), (10, .invokevirtual 95, 13), (13, .aload_n 0, 14), (14, .iload_n 2, 15), (15, .iconst 3, 16), (16, .invokevirtual 95, 19), (19, .invokevirtual 89, 22), (22, .istore 5, 24), (24, .aload_n 0, 25), (25, .iload 5, 27), (27, .iconst 4, 28), (28, .invokestatic 74, 31), (31, .aload_n 0, 32), (32, .iload_n 1, 33), (33, .iconst 0, 34), (34, .invokevirtual 95, 37), (37, .invokevirtual 51, 40), (40, .aload_n 0, 41), (41, .iload 5, 43), (43, .iconst 5, 44), (44, .invokestatic 74, 47), (47, .iload_n 3, 48), (48, .invokevirtual 51, 51), (51, .aload_n 0, 52), (52, .getfield 17, 55), (55, .iload_n 1, 56), (56, .iaload, 57), (57, .iload 4, 59), (59, .if_icmp .ne 66, 62), (62, .iconst 1, 63), (63, .goto 67, 66), (66, .iconst 0, 67), (67, .istore 6, 69), (69, .aload_n 0, 70), (70, .iload 5, 72), (72, .bipush 6, 74), (74, .invokestatic 74, 77), (77, .iload 6, 79), (79, .ifCond .eq 92, 82), (82, .aload_n 0, 83), (83, .iload_n 2, 84), (84, .bipush 6, 86), (86, .invokevirtual 95, 89), (89, .goto 115, 92), (92, .aload_n 0, 93), (93, .getfield 17, 96), (96, .iload_n 1, 97), (97, .iaload, 98), (98, .ifCond .le 114, 101), (101, .aload_n 0, 102), (102, .aload_n 0, 103), (103, .getfield 17, 106), (106, .iload_n 1, 107), (107, .iaload, 108), (108, .invokevirtual 139, 111), (111, .goto 115, 114), (114, .iconst 0, 115), (115, .invokevirtual 51, 118), (118, .aload_n 0, 119), (119, .iload 5, 121), (121, .bipush 7, 123), (123, .invokestatic 74, 126), (126, .iload 6, 128), (128, .ifCond .eq 141, 131), (131, .aload_n 0, 132), (132, .iload_n 2, 133), (133, .bipush 7, 135), (135, .invokevirtual 95, 138), (138, .goto 152, 141), (141, .aload_n 0, 142), (142, .aload_n 0, 143), (143, .iload_n 1, 144), (144, .bipush 7, 146), (146, .invokevirtual 95, 149), (149, .invokevirtual 139, 152), (152, .invokevirtual 51, 155), (155, .return_, 156)]
def k_160 : List (Nat × Instr × Nat) := [(0, .aload_n 0, 1), (1, .iload_n 2, 2), (2, .bipush 6, 4), (4, .invokevirtual 95, 7), (7, .istore 4, 9), (9, .iload 4, 11), (11, .ifCond .ne 16, 14), (14, .iconst 0, 15), (15, .ireturn, 16), (16, .aload_n 0, 17), (17, .iload_n 1, 18), (18, .bipush 6, 20), (20, .invokevirtual 95, 23), (23, .ifCond .ne 40, 26), (26, .aload_n 0, 27), (27, .iload_n 1, 28), (28, .bipush 6, 30), (30, .invokestatic 74, 33), (33, .aload_n 0, 34), (34, .invokevirtual 135, 37), (37, .invokevirtual 51, 40), (40, .aload_n 0, 41), (41, .iload_n 1, 42), (42, .iload 4, 44), (44, .invokevirtual 142, 47), (47, .aload_n 0, 48), (48, .iconst 2, 49), (49, .invokevirtual 78, 52), (52, .istore 5, 54), (54, .iconst 0, 55), (55, .istore 6, 57), (57, .iconst 0, 58), (58, .istore 7, 60), (60, .iload 7, 62), (62, .iload 5, 64), (64, .if_icmp .ge 100, 67), (67, .aload_n 0, 68), (68, .iload 7, 70), (70, .iload_n 2, 71), (71, .iload_n 3, 72), (72, .invokevirtual 126, 75), (75, .ifCond .ne 81, 78), (78, .goto 94, 81), (81, .aload_n 0, 82), (82, .iload 7, 84), (84, .iload_n 1, 85), (85, .iload_n 3, 86), (86, .iload 4, 88), (88, .invokevirtual 145, 91), (91, .iinc 6 1, 94), (94, .iinc 7 1, 97), (97, .goto 60, 100), (100, .iload 6, 102), (102, .ireturn, 103)]
def k_161 : List (Nat × Instr × Nat) := [(0, .aload_n 0, 1), (1, .iload_n 1, 2), (2, .iconst 4, 3), (3, .invokestatic 74, 6), (6, .aload_n 0, 7), (7, .iload_n 2, 8), (8, .iconst 0, 9), (9, .invokevirtual 95, 12), (12, .invokevirtual 51, 15), (15, .aload_n 0, 16), (16, .iload_n 1, 17), (17, .iconst 5, 18), (18, .invokestatic 74, 21), (21, .iload_n 3, 22), (22, .invokevirtual 51, 25), (25, .return_, 26)]
def k_162 : List (Nat × Instr × Nat) := [(0, .aload_n 0, 1), (1, .iload_n 1, 2), (2, .iload_n 2, 3), (3, .invokevirtual 123, 6), (6, .iconst (-1), 7), (7, .if_icmp .eq 12, 10), (10, .iconst (-1), 11), (11, .ireturn, 12), (12, .aload_n 0, 13), (13, .iload_n 1, 14), (14, .invokevirtual 149, 17), (17, .istore 4, 19), (19, .aload_n 0, 20), (20, .iconst 2, 21), (21, .invokevirtual 78, 24), (24, .iconst 1, 25), (25, .iadd, 26), (26, .aload_n 0, 27), (27, .iload_n 1, 28), (28, .iload_n 2, 29), (29, .invokevirtual 152, 32), (32, .iadd, 33), (33, .bipush 40, 35), (35, .if_icmp .le 41, 38), (38, .bipush (-8), 40), (40, .ireturn, 41), (41, .aload_n 0, 42), (42, .aload_n 0, 43), (43, .iload_n 1, 44), (44, .iconst 1, 45), (45, .invokevirtual 95, 48), (48, .iload_n 3, 49), (49, .iconst 0, 50), (50, .invokevirtual 89, 53), (53, .istore 5, 55), (55, .aload_n 0, 56), (56, .iload 5, 58), (58, .iload_n 1, 59), (59, .iload_n 2, 60), (60, .invokevirtual 155, 63), (63, .iconst 1, 64), (64, .aload_n 0, 65), (65, .iload 5, 67), (67, .iload_n 1, 68), (68, .iload_n 2, 69), (69, .invokevirtual 159, 72), (72, .iadd, 73), (73, .ireturn, 74)]
def k_163 : List (Nat × Instr × Nat) := [(0, .aload_n 0, 1), (1, .iload_n 3, 2), (2, .iload 4, 4), (4, .invokevirtual 123, 7), (7, .iconst (-1), 8), (8, .if_icmp .eq 13, 11), (11, .iconst (-1), 12), (12, .ireturn, 13), (13, .aload_n 0, 14), (14, .iload_n 1, 15), (15, .bipush 8, 17), (17, .invokevirtual 95, 20), (20, .iconst 1, 21), (21, .if_icmp .ne 27, 24), (24, .bipush (-2), 26), (26, .ireturn, 27), (27, .aload_n 0, 28), (28, .iload_n 1, 29), (29, .iconst 1, 30), (30, .invokevirtual 95, 33), (33, .aload_n 0, 34), (34, .iload_n 3, 35), (35, .iconst 1, 36), (36, .invokevirtual 95, 39), (39, .if_icmp .eq 45, 42), (42, .bipush (-7), 44), (44, .ireturn, 45), (45, .aload_n 0, 46), (46, .iload_n 3, 47), (47, .invokevirtual 149, 50), (50, .istore 5, 52), (52, .aload_n 0, 53), (53, .iconst 2, 54), (54, .invokevirtual 78, 57), (57, .iconst 1, 58), (58, .iadd, 59), (59, .aload_n 0, 60), (60, .iload_n 3, 61), (61, .iload 4, 63), (63, .invokevirtual 152, 66), (66, .iadd, 67), (67, .bipush 40, 69), (69, .if_icmp .le 75, 72), (72, .bipush (-8), 74), (74, .ireturn, 75), (75, .aload_n 0, 76), (76, .aload_n 0, 77), (77, .iload_n 3, 78), (78, .iconst 1, 79), (79, .invokevirtual 95, 82), (82, .aload_n 0, 83), (83, .iload_n 1, 84), (84, .iconst 2, 85), (85, .invokevirtual 95, 88), (88, .iload_n 2, 89), (89, .invokevirtual 89, 92), (92, .istore 6, 94), (94, .aload_n 0, 95), (95, .iload 6, 97), (97, .bipush 6, 99), (99, .invokestatic 74, 102), (102, .aload_n 0, 103), (103, .iload_n 1, 104), (104, .bipush 6, 106), (106, .invokevirtual 95, 109), (109, .invokevirtual 51, 112), (112, .aload_n 0, 113), (113, .iload 6, 115), (115, .bipush 7, 117), (117, .invokestatic 74, 120), (120, .aload_n 0, 121), (121, .iload_n 1, 122), (122, .bipush 7, 124), (124, .invokevirtual 95, 127), (127, .invokevirtual 51, 130), (130, .aload_n 0, 131), (131, .iload 6, 133), (133, .iload_n 3, 134), (134, .iload 4, 136), (136, .invokevirtual 155, 139), (139, .iconst 1, 140), (140, .aload_n 0, 141), (141, .iload 6, 143), (143, .iload_n 3, 144), (144, .iload 4, 146), (146, .invokevirtual 159, 149), (149, .iadd, 150), (150, .ireturn, 151)]
def k_164 : List (Nat × Instr × Nat) := [(0, .aload_n 0, 1), (1, .iload_n 2, 2), (2, .bipush 6, 4), (4, .invokevirtual 95, 7), (7, .ifCond .le 14, 10), (10, .iconst 1, 11), (11, .goto 15, 14), (14, .iconst 0, 15), (15, .istore 4, 17), (17, .aload_n 0, 18), (18, .iload_n 2, 19), (19, .iload_n 3, 20), (20, .invokevirtual 123, 23), (23, .iconst (-1), 24), (24, .if_icmp .eq 29, 27), (27, .iconst (-1), 28), (28, .ireturn, 29), (29, .iload 4, 31), (31, .ifCond .eq 48, 34), (34, .aload_n 0, 35), (35, .iload_n 1, 36), (36, .bipush 8, 38), (38, .invokevirtual 95, 41), (41, .iconst 1, 42), (42, .if_icmp .ne 48, 45), (45, .bipush (-2), 47), (47, .ireturn, 48), (48, .aload_n 0, 49), (49, .iload_n 1, 50), (50, .bipush 9, 52), (52, .invokevirtual 95, 55), (55, .iconst 1, 56), (56, .if_icmp .ne 62, 59), (59, .bipush (-3), 61), (61, .ireturn, 62), (62, .aload_n 0, 63), (63, .iload_n 1, 64), (64, .iconst 4, 65), (65, .invokevirtual 95, 68), (68, .iconst (-1), 69), (69, .if_icmp .ne 75, 72), (72, .bipush (-4), 74), (74, .ireturn, 75), (75, .iload 4, 77), (77, .ifCond .eq 91, 80), (80, .aload_n 0, 81), (81, .iload_n 1, 82), (82, .invokevirtual 162, 85), (85, .ifCond .eq 91, 88), (88, .bipush (-5), 90), (90, .ireturn, 91), (91, .aload_n 0, 92), (92, .aload_n 0, 93), (93, .aload_n 0, 94), (94, .iload_n 1, 95), (95, .iconst 4, 96), (96, .invokevirtual 95, 99), (99, .invokevirtual 112, 102), (102, .bipush 6, 104), (104, .invokevirtual 95, 107), (107, .ifCond .le 113, 110), (110, .bipush (-6), 112), (112, .ireturn, 113), (113, .aload_n 0, 114), (114, .iload_n 1, 115), (115, .iconst 1, 116), (116, .invokevirtual 95, 119), (119, .aload_n 0, 120), (120, .iload_n 2, 121), (121, .iconst 1, 122), (122, .invokevirtual 95, 125), (125, .if_icmp .ne 137, 128), (128, .aload_n 0, 129), (129, .iload_n 2, 130), (130, .iload_n 1, 131), (131, .invokevirtual 165, 134), (134, .ifCond .eq 142, 137), (137, .bipush (-7), 139), (139, .goto 143, 142), (142, .iconst 0, 143), (143, .ireturn, 144)]
def k_165 : List (Nat × Instr × Nat) := [(0, .aload_n 0, 1), (1, .iload_n 1, 2), (2, .iload_n 2, 3), (3, .iload_n 3, 4), (4, .invokevirtual 168, 7), (7, .istore 4, 9), (9, .iload 4, 11), (11, .ifCond .eq 17, 14), (14, .iload 4, 16), (16, .ireturn, 17), (17, .aload_n 0, 18), (18, .iload_n 1, 19), (19, .iconst 4, 20), (20, .invokevirtual 95, 23), (23, .istore 5, 25), (25, .aload_n 0, 26), (26, .iload_n 1, 27), (27, .iconst 5, 28), (28, .invokevirtual 95, 31), (31, .istore 6, 33), (33, .aload_n 0, 34), (34, .iload_n 2, 35), (35, .invokevirtual 149, 38), (38, .istore 7, 40), (40, .aload_n 0, 41), (41, .iload_n 1, 42), (42, .iload_n 2, 43), (43, .iload_n 3, 44), (44, .invokevirtual 155, 47), (47, .aload_n 0, 48), (48, .iconst 2, 49), (49, .invokevirtual 78, 52), (52, .aload_n 0, 53), (53, .iload_n 2, 54), (54, .iload_n 3, 55), (55, .invokevirtual 152, 58), (58, .iadd, 59), (59, .bipush 40, 61), (61, .if_icmp .gt 72, 64), (64, .aload_n 0, 65), (65, .iload_n 1, 66), (66, .iload_n 2, 67), (67, .iload_n 3, 68), (68, .invokevirtual 159, 71), (71, .ireturn, 72), (72, .aload_n 0, 73), (73, .iload_n 1, 74), (74, .iconst 4, 75), (75, .invokestatic 74, 78), (78, .iload 5, 80), (80, .invokevirtual 51, 83), (83, .aload_n 0, 84), (84, .iload_n 1, 85), (85, .iconst 5, 86), (86, .invokestatic 74, 89), (89, .iload 6, 91), (91, .invokevirtual 51, 94), (94, .bipush (-8), 96), (96, .ireturn, 97)]
def k_166 : List (Nat × Instr × Nat) := [(0, .iload_n 1, 1), (1, .iconst (-1), 2), (2, .if_icmp .eq 47, 5), (5, .aload_n 0, 6), (6, .iload_n 1, 7), (7, .iconst 2, 8), (8, .invokevirtual 95, 11), (11, .iload_n 2, 12), (12, .if_icmp .ne 47, 15), (15, .aload_n 0, 16), (16, .iload_n 1, 17), (17, .iconst 3, 18), (18, .invokevirtual 95, 21), (21, .iload_n 3, 22), (22, .if_icmp .ne 47, 25), (25, .aload_n 0, 26), (26, .iload_n 1, 27), (27, .bipush 9, 29), (29, .invokevirtual 95, 32), (32, .ifCond .ne 47, 35), (35, .aload_n 0, 36), (36, .iload_n 1, 37), (37, .invokevirtual 162, 40), (40, .ifCond .ne 47, 43), (43, .iconst 1, 44), (44, .goto 48, 47), (47, .iconst 0, 48), (48, .ireturn, 49)]
def k_167 : List (Nat × Instr × Nat) := [(0, .aload_n 0, 1), (1, .iload_n 1, 2), (2, .bipush 9, 4), (4, .invokevirtual 95, 7), (7, .iconst 1, 8), (8, .if_icmp .ne 14, 11), (11, .bipush (-3), 13), (13, .ireturn, 14), (14, .aload_n 0, 15), (15, .iload_n 1, 16), (16, .iconst 4, 17), (17, .invokevirtual 95, 20), (20, .iconst (-1), 21), (21, .if_icmp .ne 27, 24), (24, .bipush (-4), 26), (26, .ireturn, 27), (27, .aload_n 0, 28), (28, .iload_n 1, 29), (29, .invokevirtual 162, 32), (32, .ifCond .eq 38, 35), (35, .bipush (-5), 37), (37, .ireturn, 38), (38, .aload_n 0, 39), (39, .aload_n 0, 40), (40, .iload_n 1, 41), (41, .iconst 4, 42), (42, .invokevirtual 95, 45), (45, .invokevirtual 112, 48), (48, .istore_n 2, 49), (49, .aload_n 0, 50), (50, .iload_n 1, 51), (51, .iconst 5, 52), (52, .invokevirtual 95, 55), (55, .istore_n 3, 56), (56, .aload_n 0, 57), (57, .iload_n 1, 58), (58, .iconst 2, 59), (59, .invokevirtual 95, 62), (62, .istore 4, 64), (64, .aload_n 0, 65), (65, .iload_n 1, 66), (66, .iconst 3, 67), (67, .invokevirtual 95, 70), (70, .istore 5, 72), (72, .aload_n 0, 73), (73, .iload_n 2, 74), (74, .invokevirtual 149, 77), (77, .istore 6, 79), (79, .iconst 0, 80), (80, .istore 7, 82), (82, .iconst 0, 83), (83, .istore 8, 85), (85, .iload 8, 87), (87, .aload_n 0, 88), (88, .iconst 2, 89), (89, .invokevirtual 78, 92), (92, .if_icmp .ge 137, 95), (95, .aload_n 0, 96), (96, .getfield 13, 99), (99, .iload 8, 101), (101, .baload, 102), (102, .ifCond .eq 131, 105), (105, .iload 8, 107), (107, .iload_n 2, 108), (108, .if_icmp .ne 114, 111), (111, .goto 131, 114), (114, .aload_n 0, 115), (115, .getfield 26, 118), (118, .iload 7, 120), (120, .aload_n 0, 121), (121, .iload 8, 123), (123, .iconst 0, 124), (124, .invokevirtual 95, 127), (127, .iastore, 128), (128, .iinc 7 1, 131), (131, .iinc 8 1, 134), (134, .goto 85, 137), (137, .aload_n 0, 138), (138, .iload_n 1, 139), (139, .invokevirtual 171, 142), (142, .iconst 1, 143), (143, .istore 8, 145), (145, .iconst 0, 146), (146, .istore 9, 148), (148, .iload 9, 150), (150, .iload 7, 152), (152, .if_icmp .ge 218, 155), (155, .aload_n 0, 156), (156, .aload_n 0, 157), (157, .getfield 26, 160), (160, .iload 9, 162), (162, .iaload, 163), (163, .invokevirtual 112, 166), (166, .istore 10, 168), (168, .iload 10, 170), (170, .iconst (-1), 171), (171, .if_icmp .ne 178, 174), (174, .iconst (-1), 175), (175, .goto 185, 178), (178, .aload_n 0, 179), (179, .iload 10, 181), (181, .iload_n 3, 182), (182, .invokevirtual 123, 185), (185, .istore 11, 187), (187, .aload_n 0, 188), (188, .iload 11, 190), (190, .iload 4, 192), (192, .iload 5, 194), (194, .invokevirtual 174, 197), (197, .ifCond .ne 203, 200), (200, .goto 212, 203), (203, .aload_n 0, 204), (204, .iload 11, 206), (206, .invokevirtual 171, 209), (209, .iinc 8 1, 212), (212, .iinc 9 1, 215), (215, .goto 148, 218), (218, .iload 8, 220), (220, .ireturn, 221)]
def k_168 : List (Nat × Instr × Nat) := [(0, .iconst 0, 1), (1, .istore_n 2, 2), (2, .iconst 0, 3), (3, .istore_n 3, 4), (4, .iload_n 3, 5), (5, .aload_n 0, 6), (6, .iconst 2, 7), (7, .invokevirtual 78, 10), (10, .if_icmp .ge 38, 13), (13, .iload_n 2, 14), (14, .aload_n 0, 15), (15, .iload_n 3, 16), (16, .bipush 6, 18), (18, .invokevirtual 95, 21), (21, .iload_n 1, 22), (22, .if_icmp .ne 29, 25), (25, .iconst 1, 26), (26, .goto 30, 29), (29, .iconst 0, 30), (30, .iadd, 31), (31, .istore_n 2, 32), (32, .iinc 3 1, 35), (35, .goto 4, 38), (38, .iload_n 2, 39), (39, .ireturn, 40)]
def k_169 : List (Nat × Instr × Nat) := [(0, .aload_n 0, 1), (1, .iload_n 1, 2), (2, .bipush 6, 4), (4, .invokevirtual 95, 7), (7, .istore_n 3, 8), (8, .aload_n 0, 9), (9, .iload_n 1, 10), (10, .bipush 8, 12), (12, .invokestatic 74, 15), (15, .iload_n 2, 16), (16, .iconst 3, 17), (17, .if_icmp .ne 24, 20), (20, .iconst 1, 21), (21, .goto 25, 24), (24, .iconst 0, 25), (25, .invokevirtual 51, 28), (28, .iload_n 2, 29), (29, .iconst 1, 30), (30, .if_icmp .ne 52, 33), (33, .iload_n 3, 34), (34, .ifCond .ne 51, 37), (37, .aload_n 0, 38), (38, .iload_n 1, 39), (39, .bipush 6, 41), (41, .invokestatic 74, 44), (44, .aload_n 0, 45), (45, .invokevirtual 135, 48), (48, .invokevirtual 51, 51), (51, .return_, 52), (52, .iload_n 2, 53), (53, .iconst 2, 54), (54, .if_icmp .eq 71, 57), (57, .aload_n 0, 58), (58, .iload_n 1, 59), (59, .bipush 7, 61), (61, .invokestatic 74, 64), (64, .iconst 0, 65), (65, .invokevirtual 51, 68), (68, .goto 95, 71), (71, .iload_n 3, 72), (72, .ifCond .le 95, 75), (75, .aload_n 0, 76), (76, .iload_n 3, 77), (77, .invokevirtual 177, 80), (80, .iconst 1, 81), (81, .if_icmp .le 95, 84), (84, .aload_n 0, 85), (85, .iload_n 1, 86), (86, .bipush 7, 88), (88, .invokestatic 74, 91), (91, .iload_n 3, 92), (92, .invokevirtual 51, 95), (95, .aload_n 0, 96), (96, .iload_n 1, 97), (97, .bipush 6, 99), (99, .invokestatic 74, 102), (102, .iconst 0, 103), (103, .invokevirtual 51, 106), (106, .return_, 107)]
def k_170 : List (Nat × Instr × Nat) := [(0, .iconst 0, 1), (1, .istore_n 2, 2), (2, .iconst 0, 3), (3, .istore_n 3, 4), (4, .iload_n 3, 5), (5, .aload_n 0, 6), (6, .iconst 2, 7), (7, .invokevirtual 78, 10), (10, .if_icmp .ge 37, 13), (13, .iload_n 2, 14), (14, .aload_n 0, 15), (15, .iload_n 3, 16), (16, .iconst 1, 17), (17, .invokevirtual 95, 20), (20, .iload_n 1, 21), (21, .if_icmp .ne 28, 24), (24, .iconst 1, 25), (25, .goto 29, 28), (28, .iconst 0, 29), (29, .iadd, 30), (30, .istore_n 2, 31), (31, .iinc 3 1, 34), (34, .goto 4, 37), (37, .iload_n 2, 38), (38, .ireturn, 39)]
def k_171 : List (Nat × Instr × Nat) := [(0, .aload_n 0, 1), (1, .iload_n 2, 2), (2, .aload_n 0, 3), (3, .iload_n 1, 4), (4, .iconst 2, 5), (5, .invokevirtual 95, 8), (8, .aload_n 0, 9), (9, .iload_n 1, 10), (10, .iconst 3, 11), (11, .invokevirtual 95, 14), (14, .invokevirtual 89, 17), (17, .istore 4, 19), (19, .aload_n 0, 20), (20, .getfield 29, 23), (23, .iload_n 1, 24), (24, .iload 4, 26), (26, .iastore, 27), (27, .aload_n 0, 28), (28, .iload 4, 30), (30, .bipush 8, 32), (32, .invokestatic 74, 35), (35, .aload_n 0, 36), (36, .iload_n 1, 37), (37, .bipush 8, 39), (39, .invokevirtual 95, 42), (42, .invokevirtual 51, 45), (45, .aload_n 0, 46), (46, .iload 4, 48), (48, .bipush 9, 50), (50, .invokestatic 74, 53), (53, .iload_n 3, 54), (54, .ifCond .eq 61, 57), (57, .iconst 1, 58), (58, .goto 68, 61), (61, .aload_n 0, 62), (62, .iload_n 1, 63), (63, .bipush 9, 65), (65, .invokevirtual 95, 68), (68, .invokevirtual 51, 71), (71, .aload_n 0, 72), (72, .iload 4, 74), (74, .bipush 6, 76), (76, .invokestatic 74, 79), (79, .iload_n 3, 80), (80, .ifCond .eq 87, 83), (83, .iconst 0, 84), (84, .goto 94, 87), (87, .aload_n 0, 88), (88, .iload_n 1, 89), (89, .bipush 6, 91), (91, .invokevirtual 95, 94), (94, .invokevirtual 51, 97), (97, .aload_n 0, 98), (98, .iload 4, 100), (100, .bipush 7, 102), (102, .invokestatic 74, 105), (105, .iload_n 3, 106), (106, .ifCond .eq 129, 109), (109, .aload_n 0, 110), (110, .iload_n 1, 111), (111, .bipush 6, 113), (113, .invokevirtual 95, 116), (116, .ifCond .le 129, 119), (119, .aload_n 0, 120), (120, .iload_n 1, 121), (121, .bipush 6, 123), (123, .invokevirtual 95, 126), (126, .goto 136, 129), (129, .aload_n 0, 130), (130, .iload_n 1, 131), (131, .bipush 7, 133), (133, .invokevirtual 95, 136), (136, .invokevirtual 51, 139), (139, .return_, 140)]
def k_172 : List (Nat × Instr × Nat) := [(0, .aload_n 0, 1), (1, .iconst 2, 2), (2, .invokevirtual 78, 5), (5, .aload_n 0, 6), (6, .iload_n 1, 7), (7, .invokevirtual 180, 10), (10, .iadd, 11), (11, .bipush 40, 13), (13, .if_icmp .gt 25, 16), (16, .aload_n 0, 17), (17, .iconst 1, 18), (18, .invokevirtual 78, 21), (21, .iconst 4, 22), (22, .if_icmp .ne 28, 25), (25, .bipush (-8), 27), (27, .ireturn, 28), (28, .aload_n 0, 29), (29, .iconst 1, 30), (30, .invokevirtual 78, 33), (33, .istore_n 3, 34), (34, .aload_n 0, 35), (35, .iconst 2, 36), (36, .invokevirtual 78, 39), (39, .istore 4, 41), (41, .iconst 0, 42), (42, .istore 5, 44), (44, .iload 5, 46), (46, .iload 4, 48), (48, .if_icmp .ge 76, 51), (51, .aload_n 0, 52), (52, .iload 5, 54), (54, .iconst 1, 55), (55, .invokevirtual 95, 58), (58, .iload_n 1, 59), (59, .if_icmp .ne 70, 62), (62, .aload_n 0, 63), (63, .iload 5, 65), (65, .iload_n 3, 66), (66, .iload_n 2, 67), (67, .invokevirtual 183, 70), (70, .iinc 5 1, 73), (73, .goto 44, 76), (76, .iconst 0, 77), (77, .istore 5, 79), (79, .iload 5, 81), (81, .iload 4, 83), (83, .if_icmp .ge 148, 86), (86, .aload_n 0, 87), (87, .iload 5, 89), (89, .iconst 1, 90), (90, .invokevirtual 95, 93), (93, .iload_n 1, 94), (94, .if_icmp .ne 142, 97), (97, .aload_n 0, 98), (98, .iload 5, 100), (100, .iconst 4, 101), (101, .invokevirtual 95, 104), (104, .iconst (-1), 105), (105, .if_icmp .eq 142, 108), (108, .aload_n 0, 109), (109, .aload_n 0, 110), (110, .getfield 29, 113), (113, .iload 5, 115), (115, .iaload, 116), (116, .aload_n 0, 117), (117, .getfield 29, 120), (120, .aload_n 0, 121), (121, .aload_n 0, 122), (122, .iload 5, 124), (124, .iconst 4, 125), (125, .invokevirtual 95, 128), (128, .invokevirtual 112, 131), (131, .iaload, 132), (132, .aload_n 0, 133), (133, .iload 5, 135), (135, .iconst 5, 136), (136, .invokevirtual 95, 139), (139, .invokevirtual 155, 142), (142, .iinc 5 1, 145), (145, .goto 79, 148), (148, .aload_n 0, 149), (149, .iconst 1, 150), (150, .iconst 1, 151), (151, .invokevirtual 92, 154), (154, .iload_n 3, 155), (155, .ireturn, 156)]
def k_173 : List (Nat × Instr × Nat) := [(0, .aload_n 0, 1), (1, .aload_n 0, 2), (2, .getfield 187, 5), (5, .aload_n 0, 6), (6, .getfield 190, 9), (9, .invokevirtual 123, 12), (12, .istore_n 1, 13), (13, .iload_n 1, 14), (14, .iconst (-1), 15), (15, .if_icmp .eq 49, 18), (18, .aload_n 0, 19), (19, .iload_n 1, 20), (20, .putfield 187, 23), (23, .aload_n 0, 24), (24, .aload_n 0, 25), (25, .iload_n 1, 26), (26, .iconst 3, 27), (27, .invokevirtual 95, 30), (30, .putfield 190, 33), (33, .aload_n 0, 34), (34, .aload_n 0, 35), (35, .getfield 187, 38), (38, .aload_n 0, 39), (39, .getfield 190, 42), (42, .invokevirtual 123, 45), (45, .istore_n 1, 46), (46, .goto 13, 49), (49, .return_, 50)]
def k_174 : List (Nat × Instr × Nat) := [(0, .iconst 0, 1), (1, .istore_n 2, 2), (2, .iload_n 2, 3), (3, .aload_n 0, 4), (4, .iconst 2, 5), (5, .invokevirtual 78, 8), (8, .if_icmp .ge 42, 11), (11, .aload_n 0, 12), (12, .iload_n 2, 13), (13, .iconst 1, 14), (14, .invokevirtual 95, 17), (17, .iload_n 1, 18), (18, .if_icmp .ne 36, 21), (21, .aload_n 0, 22), (22, .iload_n 2, 23), (23, .iconst 4, 24), (24, .invokevirtual 95, 27), (27, .iconst (-1), 28), (28, .if_icmp .ne 36, 31), (31, .aload_n 0, 32), (32, .iload_n 2, 33), (33, .putfield 187, 36), (36, .iinc 2 1, 39), (39, .goto 2, 42), (42, .aload_n 0, 43), (43, .aload_n 0, 44), (44, .aload_n 0, 45), (45, .getfield 187, 48), (48, .iconst 3, 49), (49, .invokevirtual 95, 52), (52, .putfield 190, 55), (55, .aload_n 0, 56), (56, .invokevirtual 193, 59), (59, .return_, 60)]
def k_175 : List (Nat × Instr × Nat) := [(0, .aload_n 0, 1), (1, .iconst 0, 2), (2, .putfield 62, 5), (5, .aload_n 0, 6), (6, .getfield 196, 9), (9, .bipush 20, 11), (11, .iadd, 12), (12, .sipush 600, 15), (15, .if_icmp .le 20, 18), (18, .iconst (-1), 19), (19, .ireturn, 20), (20, .iconst 0, 21), (21, .istore 6, 23), (23, .iload 6, 25), (25, .bipush 20, 27), (27, .if_icmp .ge 113, 30), (30, .iload 6, 32), (32, .iconst 4, 33), (33, .if_icmp .ge 40, 36), (36, .iload_n 1, 37), (37, .goto 76, 40), (40, .iload 6, 42), (42, .bipush 8, 44), (44, .if_icmp .ge 51, 47), (47, .iload_n 2, 48), (48, .goto 76, 51), (51, .iload 6, 53), (53, .bipush 12, 55), (55, .if_icmp .ge 62, 58), (58, .iload_n 3, 59), (59, .goto 76, 62), (62, .iload 6, 64), (64, .bipush 16, 66), (66, .if_icmp .ge 74, 69), (69, .iload 4, 71), (71, .goto 76, 74), (74, .iload 5, 76), (76, .istore 7, 78), (78, .aload_n 0, 79), (79, .getfield 32, 82), (82, .aload_n 0, 83), (83, .getfield 196, 86), (86, .iload 6, 88), (88, .iadd, 89), (89, .iload 7, 91), (91, .bipush 24, 93), (93, .bipush 8, 95), (95, .iload 6, 97), (97, .iconst 4, 98), (98, .irem, 99), (99, .imul, 100), (100, .isub, 101), (101, .ishr, 102), (102, .sipush 255, 105), (105, .iand, 106), (106, .iastore, 107), (107, .iinc 6 1, 110), (110, .goto 23, 113), (113, .aload_n 0, 114), (114, .dup, 115), (115, .getfield 196, 118), (118, .bipush 20, 120), (120, .iadd, 121), (121, .putfield 196, 124), (124, .aload_n 0, 125), (125, .getfield 196, 128), (128, .ireturn, 129)]
def k_176 : List (Nat × Instr × Nat) := [(0, .aload_n 0, 1), (1, .getfield 199, 4), (4, .ifCond .eq 8, 7), (7, .return_, 8), (8, .aload_n 0, 9), (9, .iload_n 1, 10), (10, .putfield 199, 13), (13, .aload_n 0, 14), (14, .iload_n 2, 15), (15, .putfield 202, 18), (18, .return_, 19)]
def k_177 : List (Nat × Instr × Nat) := [(0, .aload_n 0, 1), (1, .getfield 205, 4), (4, .aload_n 0, 5), (5, .getfield 208, 8), (8, .if_icmp .ge 38, 11), (11, .aload_n 0, 12), (12, .getfield 32, 15), (15, .aload_n 0, 16), (16, .getfield 205, 19), (19, .iaload, 20), (20, .bipush 32, 22), (22, .if_icmp .ne 38, 25), (25, .aload_n 0, 26), (26, .dup, 27), (27, .getfield 205, 30), (30, .iconst 1, 31), (31, .iadd, 32), (32, .putfield 205, 35), (35, .goto 0, 38), (38, .aload_n 0, 39), (39, .getfield 205, 42), (42, .aload_n 0, 43), (43, .getfield 208, 46), (46, .if_icmp .ge 61, 49), (49, .aload_n 0, 50), (50, .getfield 32, 53), (53, .aload_n 0, 54), (54, .getfield 205, 57), (57, .iaload, 58), (58, .goto 62, 61), (61, .iconst (-1), 62), (62, .ireturn, 63)]
def k_178 : List (Nat × Instr × Nat) := [(0, .iload_n 0, 1), (1, .bipush 97, 3), (3, .if_icmp .lt 16, 6), (6, .iload_n 0, 7), (7, .bipush 122, 9), (9, .if_icmp .gt 16, 12), (12, .iconst 1, 13), (13, .goto 17, 16), (16, .iconst 0, 17), (17, .ireturn, 18)]
def k_179 : List (Nat × Instr × Nat) := [(0, .aload_n 0, 1), (1, .getfield 199, 4), (4, .ifCond .eq 9, 7), (7, .iconst 0, 8), (8, .ireturn, 9), (9, .aload_n 0, 10), (10, .invokevirtual 211, 13), (13, .pop, 14), (14, .aload_n 0, 15), (15, .getfield 205, 18), (18, .istore_n 2, 19), (19, .iload_n 2, 20), (20, .aload_n 0, 21), (21, .getfield 208, 24), (24, .if_icmp .ge 45, 27), (27, .aload_n 0, 28), (28, .getfield 32, 31), (31, .iload_n 2, 32), (32, .iaload, 33), (33, .invokestatic 214, 36), (36, .ifCond .eq 45, 39), (39, .iinc 2 1, 42), (42, .goto 19, 45), (45, .iload_n 2, 46), (46, .aload_n 0, 47), (47, .getfield 205, 50), (50, .isub, 51), (51, .aload_n 1, 52), (52, .invokevirtual 217, 55), (55, .if_icmp .ne 62, 58), (58, .iconst 1, 59), (59, .goto 63, 62), (62, .iconst 0, 63), (63, .istore_n 3, 64), (64, .iconst 0, 65), (65, .istore 4, 67), (67, .iload_n 3, 68), (68, .ifCond .eq 113, 71), (71, .iload 4, 73), (73, .aload_n 1, 74), (74, .invokevirtual 217, 77), (77, .if_icmp .ge 113, 80), (80, .aload_n 0, 81), (81, .getfield 32, 84), (84, .aload_n 0, 85), (85, .getfield 205, 88), (88, .iload 4, 90), (90, .iadd, 91), (91, .iaload, 92), (92, .aload_n 1, 93), (93, .iload 4, 95), (95, .invokevirtual 222, 98), (98, .if_icmp .ne 105, 101), (101, .iconst 1, 102), (102, .goto 106, 105), (105, .iconst 0, 106), (106, .istore_n 3, 107), (107, .iinc 4 1, 110), (110, .goto 67, 113), (113, .iload_n 3, 114), (114, .ifCond .eq 122, 117), (117, .aload_n 0, 118), (118, .iload_n 2, 119), (119, .putfield 205, 122), (122, .iload_n 3, 123), (123, .ireturn, 124)]
def k_180 : List (Nat × Instr × Nat) := [(0, .aload_n 0, 1), (1, .getfield 199, 4), (4, .ifCond .eq 8, 7), (7, .return_, 8), (8, .aload_n 0, 9), (9, .invokevirtual 211, 12), (12, .iload_n 1, 13), (13, .if_icmp .eq 29, 16), (16, .aload_n 0, 17), (17, .bipush (-12), 19), (19, .aload_n 0, 20), (20, .getfield 205, 23), (23, .invokevirtual 226, 26), (26, .goto 39, 29), (29, .aload_n 0, 30), (30, .dup, 31), (31, .getfield 205, 34), (34, .iconst 1, 35), (35, .iadd, 36), (36, .putfield 205, 39), (39, .return_, 40)]
def k_181 : List (Nat × Instr × Nat) := [(0, .aload_n 0, 1), (1, .getfield 199, 4), (4, .ifCond .eq 9, 7), (7, .iconst 0, 8), (8, .ireturn, 9), (9, .aload_n 0, 10), (10, .invokevirtual 211, 13), (13, .pop, 14), (14, .aload_n 0, 15), (15, .aload_n 0, 16), (16, .getfield 205, 19), (19, .putfield 229, 22), (22, .aload_n 0, 23), (23, .aload_n 0, 24), (24, .getfield 205, 27), (27, .putfield 232, 30), (30, .aload_n 0, 31), (31, .getfield 232, 34), (34, .aload_n 0, 35), (35, .getfield 208, 38), (38, .if_icmp .ge 69, 41), (41, .aload_n 0, 42), (42, .getfield 32, 45), (45, .aload_n 0, 46), (46, .getfield 232, 49), (49, .iaload, 50), (50, .invokestatic 214, 53), (53, .ifCond .eq 69, 56), (56, .aload_n 0, 57), (57, .dup, 58), (58, .getfield 232, 61), (61, .iconst 1, 62), (62, .iadd, 63), (63, .putfield 232, 66), (66, .goto 30, 69), (69, .aload_n 0, 70), (70, .getfield 232, 73), (73, .aload_n 0, 74), (74, .getfield 229, 77), (77, .if_icmp .eq 94, 80), (80, .aload_n 0, 81), (81, .getfield 232, 84), (84, .aload_n 0, 85), (85, .getfield 229, 88), (88, .isub, 89), (89, .bipush 6, 91), (91, .if_icmp .le 106, 94), (94, .aload_n 0, 95), (95, .bipush (-12), 97), (97, .aload_n 0, 98), (98, .getfield 205, 101), (101, .invokevirtual 226, 104), (104, .iconst 0, 105), (105, .ireturn, 106), (106, .aload_n 0, 107), (107, .aload_n 0, 108), (108, .getfield 232, 111), (111, .putfield 205, 114), (114, .iconst 1, 115), (115, .ireturn, 116)]
def k_182 : List (Nat × Instr × Nat) := [(0, .iconst 0, 1), (1, .istore_n 2, 2), (2, .iload_n 2, 3), (3, .bipush 6, 5), (5, .if_icmp .ge 54, 8), (8, .aload_n 0, 9), (9, .iload_n 1, 10), (10, .iload_n 2, 11), (11, .iadd, 12), (12, .invokevirtual 78, 15), (15, .aload_n 0, 16), (16, .getfield 229, 19), (19, .iload_n 2, 20), (20, .iadd, 21), (21, .aload_n 0, 22), (22, .getfield 232, 25), (25, .if_icmp .ge 42, 28), (28, .aload_n 0, 29), (29, .getfield 32, 32), (32, .aload_n 0, 33), (33, .getfield 229, 36), (36, .iload_n 2, 37), (37, .iadd, 38), (38, .iaload, 39), (39, .goto 43, 42), (42, .iconst 0, 43), (43, .if_icmp .eq 48, 46), (46, .iconst 0, 47), (47, .ireturn, 48), (48, .iinc 2 1, 51), (51, .goto 2, 54), (54, .iconst 1, 55), (55, .ireturn, 56)]
def k_183 : List (Nat × Instr × Nat) := [(0, .iconst 0, 1), (1, .istore_n 2, 2), (2, .iload_n 2, 3), (3, .bipush 6, 5), (5, .if_icmp .ge 49, 8), (8, .aload_n 0, 9), (9, .iload_n 1, 10), (10, .iload_n 2, 11), (11, .iadd, 12), (12, .aload_n 0, 13), (13, .getfield 229, 16), (16, .iload_n 2, 17), (17, .iadd, 18), (18, .aload_n 0, 19), (19, .getfield 232, 22), (22, .if_icmp .ge 39, 25), (25, .aload_n 0, 26), (26, .getfield 32, 29), (29, .aload_n 0, 30), (30, .getfield 229, 33), (33, .iload_n 2, 34), (34, .iadd, 35), (35, .iaload, 36), (36, .goto 40, 39), (39, .iconst 0, 40), (40, .invokevirtual 51, 43), (43, .iinc 2 1, 46), (46, .goto 2, 49), (49, .return_, 50)]
def k_184 : List (Nat × Instr × Nat) := [(0, .iconst 0, 1), (1, .istore_n 1, 2), (2, .iload_n 1, 3), (3, .aload_n 0, 4), (4, .iconst 0, 5), (5, .invokevirtual 78, 8), (8, .if_icmp .ge 31, 11), (11, .aload_n 0, 12), (12, .iload_n 1, 13), (13, .iconst 0, 14), (14, .invokestatic 82, 17), (17, .invokevirtual 235, 20), (20, .ifCond .eq 25, 23), (23, .iload_n 1, 24), (24, .ireturn, 25), (25, .iinc 1 1, 28), (28, .goto 2, 31), (31, .iconst (-1), 32), (32, .ireturn, 33)]
def k_185 : List (Nat × Instr × Nat) := [(0, .iconst 1, 1), (1, .istore_n 3, 2), (2, .iload_n 3, 3), (3, .aload_n 0, 4), (4, .iload_n 1, 5), (5, .invokevirtual 101, 8), (8, .if_icmp .ge 42, 11), (11, .aload_n 0, 12), (12, .iload_n 1, 13), (13, .iload_n 3, 14), (14, .invokevirtual 98, 17), (17, .iload_n 2, 18), (18, .if_icmp .ne 36, 21), (21, .aload_n 0, 22), (22, .iload_n 1, 23), (23, .iload_n 3, 24), (24, .iconst 0, 25), (25, .invokestatic 85, 28), (28, .invokevirtual 235, 31), (31, .ifCond .eq 36, 34), (34, .iload_n 3, 35), (35, .ireturn, 36), (36, .iinc 3 1, 39), (39, .goto 2, 42), (42, .iconst (-1), 43), (43, .ireturn, 44)]
def k_186 : List (Nat × Instr × Nat) := [(0, .aload_n 0, 1), (1, .invokevirtual 238, 4), (4, .ifCond .ne 8, 7), (7, .return_, 8), (8, .aload_n 0, 9), (9, .iload_n 1, 10), (10, .iload_n 2, 11), (11, .invokevirtual 242, 14), (14, .iconst (-1), 15), (15, .if_icmp .eq 31, 18), (18, .aload_n 0, 19), (19, .bipush (-14), 21), (21, .aload_n 0, 22), (22, .getfield 229, 25), (25, .invokevirtual 226, 28), (28, .goto 51, 31), (31, .aload_n 0, 32), (32, .iload_n 1, 33), (33, .invokevirtual 101, 36), (36, .bipush 12, 38), (38, .if_icmp .ne 51, 41), (41, .aload_n 0, 42), (42, .bipush (-15), 44), (44, .aload_n 0, 45), (45, .getfield 229, 48), (48, .invokevirtual 226, 51), (51, .aload_n 0, 52), (52, .getfield 199, 55), (55, .ifCond .eq 59, 58), (58, .return_, 59), (59, .aload_n 0, 60), (60, .iload_n 1, 61), (61, .invokevirtual 101, 64), (64, .istore_n 3, 65), (65, .aload_n 0, 66), (66, .iload_n 1, 67), (67, .iload_n 3, 68), (68, .iconst 0, 69), (69, .invokestatic 85, 72), (72, .invokevirtual 245, 75), (75, .aload_n 0, 76), (76, .iload_n 1, 77), (77, .iload_n 3, 78), (78, .bipush 6, 80), (80, .invokestatic 85, 83), (83, .iload_n 2, 84), (84, .invokevirtual 51, 87), (87, .aload_n 0, 88), (88, .iload_n 1, 89), (89, .bipush 6, 91), (91, .invokestatic 82, 94), (94, .iload_n 3, 95), (95, .iconst 1, 96), (96, .iadd, 97), (97, .invokevirtual 51, 100), (100, .aload_n 0, 101), (101, .iload_n 1, 102), (102, .iload_n 3, 103), (103, .invokevirtual 248, 106), (106, .return_, 107)]
def k_187 : List (Nat × Instr × Nat) := [(0, .aload_n 0, 1), (1, .getfield 199, 4), (4, .ifCond .ne 16, 7), (7, .aload_n 0, 8), (8, .invokevirtual 211, 11), (11, .bipush 40, 13), (13, .if_icmp .eq 17, 16), (16, .return_, 17), (17, .aload_n 0, 18), (18, .getfield 251, 21), (21, .iconst 5, 22), (22, .if_icmp .ne 36, 25), (25, .aload_n 0, 26), (26, .bipush (-15), 28), (28, .aload_n 0, 29), (29, .getfield 205, 32), (32, .invokevirtual 226, 35), (35, .return_, 36), (36, .aload_n 0, 37), (37, .dup, 38), (38, .getfield 251, 41), (41, .iconst 1, 42), (42, .iadd, 43), (43, .putfield 251, 46), (46, .aload_n 0, 47), (47, .dup, 48), (48, .getfield 205, 51), (51, .iconst 1, 52), (52, .iadd, 53), (53, .putfield 205, 56), (56, .aload_n 0, 57), (57, .iload_n 1, 58), (58, .iload_n 2, 59), (59, .invokevirtual 254, 62), (62, .aload_n 0, 63), (63, .getfield 199, 66), (66, .ifCond .ne 97, 69), (69, .aload_n 0, 70), (70, .invokevirtual 211, 73), (73, .bipush 44, 75), (75, .if_icmp .ne 97, 78), (78, .aload_n 0, 79), (79, .dup, 80), (80, .getfield 205, 83), (83, .iconst 1, 84), (84, .iadd, 85), (85, .putfield 205, 88), (88, .aload_n 0, 89), (89, .iload_n 1, 90), (90, .iload_n 2, 91), (91, .invokevirtual 254, 94), (94, .goto 62, 97), (97, .aload_n 0, 98), (98, .bipush 41, 100), (100, .invokevirtual 257, 103), (103, .aload_n 0, 104), (104, .dup, 105), (105, .getfield 251, 108), (108, .iconst 1, 109), (109, .isub, 110), (110, .putfield 251, 113), (113, .return_, 114)]
def k_188 : List (Nat × Instr × Nat) := [(0, .aload_n 0, 1), (1, .invokevirtual 211, 4), (4, .pop, 5), (5, .aload_n 0, 6), (6, .getfield 205, 9), (9, .istore_n 1, 10), (10, .aload_n 0, 11), (11, .ldc_w 260, 14), (14, .invokevirtual 262, 17), (17, .ifCond .ne 22, 20), (20, .iconst 0, 21), (21, .ireturn, 22), (22, .aload_n 0, 23), (23, .iconst 0, 24), (24, .invokevirtual 78, 27), (27, .iconst 4, 28), (28, .if_icmp .ne 38, 31), (31, .aload_n 0, 32), (32, .bipush (-15), 34), (34, .iload_n 1, 35), (35, .invokevirtual 226, 38), (38, .aload_n 0, 39), (39, .invokevirtual 238, 42), (42, .ifCond .ne 47, 45), (45, .iconst 0, 46), (46, .ireturn, 47), (47, .aload_n 0, 48), (48, .iconst 0, 49), (49, .invokevirtual 78, 52), (52, .istore_n 2, 53), (53, .aload_n 0, 54), (54, .invokevirtual 266, 57), (57, .iconst (-1), 58), (58, .if_icmp .eq 71, 61), (61, .aload_n 0, 62), (62, .bipush (-14), 64), (64, .aload_n 0, 65), (65, .getfield 229, 68), (68, .invokevirtual 226, 71), (71, .aload_n 0, 72), (72, .getfield 199, 75), (75, .ifCond .eq 80, 78), (78, .iconst 0, 79), (79, .ireturn, 80), (80, .aload_n 0, 81), (81, .iload_n 2, 82), (82, .iconst 0, 83), (83, .invokestatic 82, 86), (86, .invokevirtual 245, 89), (89, .aload_n 0, 90), (90, .iload_n 2, 91), (91, .invokevirtual 55, 94), (94, .aload_n 0, 95), (95, .iconst 0, 96), (96, .iconst 1, 97), (97, .invokevirtual 92, 100), (100, .aload_n 0, 101), (101, .iload_n 2, 102), (102, .iconst 0, 103), (103, .invokevirtual 248, 106), (106, .aload_n 0, 107), (107, .bipush 59, 109), (109, .invokevirtual 257, 112), (112, .aload_n 0, 113), (113, .getfield 199, 116), (116, .ifCond .ne 123, 119), (119, .iconst 1, 120), (120, .goto 124, 123), (123, .iconst 0, 124), (124, .ireturn, 125)]
def k_189 : List (Nat × Instr × Nat) := [(0, .aload_n 0, 1), (1, .invokevirtual 238, 4), (4, .ifCond .ne 9, 7), (7, .iconst 0, 8), (8, .ireturn, 9), (9, .aload_n 0, 10), (10, .invokevirtual 266, 13), (13, .istore_n 1, 14), (14, .iload_n 1, 15), (15, .iconst (-1), 16), (16, .if_icmp .ne 29, 19), (19, .aload_n 0, 20), (20, .bipush (-13), 22), (22, .aload_n 0, 23), (23, .getfield 229, 26), (26, .invokevirtual 226, 29), (29, .iload_n 1, 30), (30, .ireturn, 31)]
def k_190 : List (Nat × Instr × Nat) := [(0, .aload_n 0, 1), (1, .invokevirtual 238, 4), (4, .ifCond .ne 8, 7), (7, .return_, 8), (8, .aload_n 0, 9), (9, .aload_n 0, 10), (10, .aload_n 0, 11), (11, .getfield 187, 14), (14, .iconst 2, 15), (15, .invokevirtual 95, 18), (18, .aload_n 0, 19), (19, .getfield 190, 22), (22, .invokevirtual 242, 25), (25, .istore_n 1, 26), (26, .iload_n 1, 27), (27, .iconst (-1), 28), (28, .if_icmp .ne 42, 31), (31, .aload_n 0, 32), (32, .bipush (-13), 34), (34, .aload_n 0, 35), (35, .getfield 229, 38), (38, .invokevirtual 226, 41), (41, .return_, 42), (42, .aload_n 0, 43), (43, .iload_n 1, 44), (44, .putfield 190, 47), (47, .aload_n 0, 48), (48, .invokevirtual 193, 51), (51, .return_, 52)]
def k_191 : List (Nat × Instr × Nat) := [(0, .aload_n 0, 1), (1, .bipush 47, 3), (3, .invokevirtual 257, 6), (6, .aload_n 0, 7), (7, .getfield 199, 10), (10, .ifCond .eq 14, 13), (13, .return_, 14), (14, .aload_n 0, 15), (15, .iload_n 1, 16), (16, .invokevirtual 269, 19), (19, .aload_n 0, 20), (20, .invokevirtual 211, 23), (23, .invokestatic 214, 26), (26, .ifCond .ne 30, 29), (29, .return_, 30), (30, .aload_n 0, 31), (31, .invokevirtual 272, 34), (34, .aload_n 0, 35), (35, .getfield 199, 38), (38, .ifCond .ne 67, 41), (41, .aload_n 0, 42), (42, .invokevirtual 211, 45), (45, .bipush 47, 47), (47, .if_icmp .ne 67, 50), (50, .aload_n 0, 51), (51, .dup, 52), (52, .getfield 205, 55), (55, .iconst 1, 56), (56, .iadd, 57), (57, .putfield 205, 60), (60, .aload_n 0, 61), (61, .invokevirtual 272, 64), (64, .goto 34, 67), (67, .return_, 68)]
def k_192 : List (Nat × Instr × Nat) := [(0, .aload_n 0, 1), (1, .ldc_w 275, 4), (4, .invokevirtual 262, 7), (7, .ifCond .eq 58, 10), (10, .aload_n 0, 11), (11, .invokevirtual 277, 14), (14, .istore_n 1, 15), (15, .aload_n 0, 16), (16, .iconst 0, 17), (17, .invokevirtual 280, 20), (20, .aload_n 0, 21), (21, .invokevirtual 283, 24), (24, .istore_n 2, 25), (25, .aload_n 0, 26), (26, .getfield 199, 29), (29, .ifCond .ne 55, 32), (32, .aload_n 0, 33), (33, .aload_n 0, 34), (34, .getfield 187, 37), (37, .aload_n 0, 38), (38, .getfield 190, 41), (41, .iload_n 1, 42), (42, .invokevirtual 286, 45), (45, .ifCond .ge 55, 48), (48, .aload_n 0, 49), (49, .bipush (-16), 51), (51, .iload_n 2, 52), (52, .invokevirtual 226, 55), (55, .goto 255, 58), (58, .aload_n 0, 59), (59, .ldc_w 289, 62), (62, .invokevirtual 262, 65), (65, .ifCond .eq 133, 68), (68, .aload_n 0, 69), (69, .iconst 0, 70), (70, .invokevirtual 280, 73), (73, .aload_n 0, 74), (74, .getfield 187, 77), (77, .istore_n 1, 78), (78, .aload_n 0, 79), (79, .getfield 190, 82), (82, .istore_n 2, 83), (83, .aload_n 0, 84), (84, .bipush 62, 86), (86, .invokevirtual 257, 89), (89, .aload_n 0, 90), (90, .iconst 0, 91), (91, .invokevirtual 280, 94), (94, .aload_n 0, 95), (95, .invokevirtual 283, 98), (98, .istore_n 3, 99), (99, .aload_n 0, 100), (100, .getfield 199, 103), (103, .ifCond .ne 130, 106), (106, .aload_n 0, 107), (107, .iload_n 1, 108), (108, .iload_n 2, 109), (109, .aload_n 0, 110), (110, .getfield 187, 113), (113, .aload_n 0, 114), (114, .getfield 190, 117), (117, .invokevirtual 291, 120), (120, .ifCond .ge 130, 123), (123, .aload_n 0, 124), (124, .bipush (-16), 126), (126, .iload_n 3, 127), (127, .invokevirtual 226, 130), (130, .goto 255, 133), (133, .aload_n 0, 134), (134, .ldc_w 295, 137), (137, .invokevirtual 262, 140), (140, .ifCond .eq 245, 143), (143, .aload_n 0, 144), (144, .ldc_w 297, 147), (147, .invokevirtual 262, 150), (150, .ifCond .eq 157, 153), (153, .iconst 0, 154), (154, .goto 200, 157), (157, .aload_n 0, 158), (158, .ldc_w 299, 161), (161, .invokevirtual 262, 164), (164, .ifCond .eq 171, 167), (167, .iconst 1, 168), (168, .goto 200, 171), (171, .aload_n 0, 172), (172, .ldc_w 301, 175), (175, .invokevirtual 262, 178), (178, .ifCond .eq 185, 181), (181, .iconst 2, 182), (182, .goto 200, 185), (185, .aload_n 0, 186), (186, .ldc_w 303, 189), (189, .invokevirtual 262, 192), (192, .ifCond .eq 199, 195), (195, .iconst 3, 196), (196, .goto 200, 199), (199, .iconst (-1), 200), (200, .istore_n 1, 201), (201, .iload_n 1, 202), (202, .iconst (-1), 203), (203, .if_icmp .ne 216, 206), (206, .aload_n 0, 207), (207, .bipush (-12), 209), (209, .aload_n 0, 210), (210, .getfield 205, 213), (213, .invokevirtual 226, 216), (216, .aload_n 0, 217), (217, .iconst 0, 218), (218, .invokevirtual 280, 221), (221, .aload_n 0, 222), (222, .invokevirtual 283, 225), (225, .istore_n 2, 226), (226, .aload_n 0, 227), (227, .getfield 199, 230), (230, .ifCond .ne 242, 233), (233, .aload_n 0, 234), (234, .aload_n 0, 235), (235, .getfield 187, 238), (238, .iload_n 1, 239), (239, .invokevirtual 305, 242), (242, .goto 255, 245), (245, .aload_n 0, 246), (246, .bipush (-12), 248), (248, .aload_n 0, 249), (249, .getfield 205, 252), (252, .invokevirtual 226, 255), (255, .return_, 256)]
def k_193 : List (Nat × Instr × Nat) := [(0, .aload_n 0, 1), (1, .invokevirtual 211, 4), (4, .istore_n 1, 5), (5, .aload_n 0, 6), (6, .getfield 205, 9), (9, .istore_n 2, 10), (10, .aload_n 0, 11), (11, .bipush 59, 13), (13, .invokevirtual 257, 16), (16, .iload_n 2, 17), (17, .ireturn, 18)]
def k_194 : List (Nat × Instr × Nat) := [(0, .aload_n 0, 1), (1, .iconst 0, 2), (2, .putfield 205, 5), (5, .aload_n 0, 6), (6, .iconst 0, 7), (7, .putfield 199, 10), (10, .aload_n 0, 11), (11, .iconst 0, 12), (12, .putfield 251, 15), (15, .aload_n 0, 16), (16, .ldc_w 308, 19), (19, .invokevirtual 262, 22), (22, .ifCond .ne 35, 25), (25, .aload_n 0, 26), (26, .bipush (-12), 28), (28, .aload_n 0, 29), (29, .getfield 205, 32), (32, .invokevirtual 226, 35), (35, .aload_n 0, 36), (36, .bipush 59, 38), (38, .invokevirtual 257, 41), (41, .aload_n 0, 42), (42, .getfield 199, 45), (45, .ifCond .ne 52, 48), (48, .iconst 1, 49), (49, .goto 53, 52), (52, .iconst 0, 53), (53, .istore_n 1, 54), (54, .iload_n 1, 55), (55, .ifCond .eq 66, 58), (58, .aload_n 0, 59), (59, .invokevirtual 310, 62), (62, .istore_n 1, 63), (63, .goto 54, 66), (66, .aload_n 0, 67), (67, .getfield 199, 70), (70, .ifCond .ne 91, 73), (73, .aload_n 0, 74), (74, .iconst 0, 75), (75, .invokevirtual 78, 78), (78, .ifCond .ne 91, 81), (81, .aload_n 0, 82), (82, .bipush (-12), 84), (84, .aload_n 0, 85), (85, .getfield 205, 88), (88, .invokevirtual 226, 91), (91, .aload_n 0, 92), (92, .ldc_w 312, 95), (95, .invokevirtual 262, 98), (98, .ifCond .ne 111, 101), (101, .aload_n 0, 102), (102, .bipush (-12), 104), (104, .aload_n 0, 105), (105, .getfield 205, 108), (108, .invokevirtual 226, 111), (111, .aload_n 0, 112), (112, .invokevirtual 277, 115), (115, .istore_n 2, 116), (116, .aload_n 0, 117), (117, .bipush 59, 119), (119, .invokevirtual 257, 122), (122, .aload_n 0, 123), (123, .getfield 199, 126), (126, .ifCond .eq 130, 129), (129, .return_, 130), (130, .aload_n 0, 131), (131, .iload_n 2, 132), (132, .invokevirtual 59, 135), (135, .aload_n 0, 136), (136, .getfield 199, 139), (139, .ifCond .ne 157, 142), (142, .aload_n 0, 143), (143, .invokevirtual 211, 146), (146, .iconst (-1), 147), (147, .if_icmp .eq 157, 150), (150, .aload_n 0, 151), (151, .invokevirtual 314, 154), (154, .goto 135, 157), (157, .return_, 158)]
def k_195 : List (Nat × Instr × Nat) := [(0, .aload_n 0, 1), (1, .iconst 0, 2), (2, .putfield 62, 5), (5, .aload_n 0, 6), (6, .iload_n 1, 7), (7, .i2l, 8), (8, .lconst 0, 9), (9, .aload_n 0, 10), (10, .getfield 196, 13), (13, .i2l, 14), (14, .invokestatic 104, 17), (17, .iconst 1, 18), (18, .invokevirtual 317, 21), (21, .ifCond .ne 26, 24), (24, .iconst 0, 25), (25, .ireturn, 26), (26, .aload_n 0, 27), (27, .iload_n 1, 28), (28, .putfield 208, 31), (31, .aload_n 0, 32), (32, .iconst 0, 33), (33, .putfield 196, 36), (36, .aload_n 0, 37), (37, .iconst (-1), 38), (38, .putfield 35, 41), (41, .aload_n 0, 42), (42, .getfield 65, 45), (45, .istore_n 2, 46), (46, .aload_n 0, 47), (47, .bipush 9, 49), (49, .putfield 65, 52), (52, .iconst 0, 53), (53, .istore_n 3, 54), (54, .iload_n 3, 55), (55, .sipush 780, 58), (58, .if_icmp .ge 73, 61), (61, .aload_n 0, 62), (62, .iload_n 3, 63), (63, .iconst 0, 64), (64, .invokevirtual 51, 67), (67, .iinc 3 1, 70), (70, .goto 54, 73), (73, .aload_n 0, 74), (74, .invokevirtual 321, 77), (77, .aload_n 0, 78), (78, .iload_n 2, 79), (79, .putfield 65, 82), (82, .aload_n 0, 83), (83, .getfield 199, 86), (86, .ifCond .eq 102, 89), (89, .aload_n 0, 90), (90, .aload_n 0, 91), (91, .getfield 202, 94), (94, .putfield 35, 97), (97, .aload_n 0, 98), (98, .getfield 199, 101), (101, .ireturn, 102), (102, .aload_n 0, 103), (103, .invokevirtual 324, 106), (106, .aload_n 0, 107), (107, .bipush 9, 109), (109, .aload_n 0, 110), (110, .getfield 65, 113), (113, .invokevirtual 68, 116), (116, .aload_n 0, 117), (117, .iconst 2, 118), (118, .invokevirtual 78, 121), (121, .ireturn, 122)]
def k_196 : List (Nat × Instr × Nat) := [(0, .aload_n 0, 1), (1, .iconst 0, 2), (2, .putfield 62, 5), (5, .aload_n 0, 6), (6, .getfield 35, 9), (9, .ireturn, 10)]
def k_197 : List (Nat × Instr × Nat) := [(0, .iconst 0, 1), (1, .istore_n 2, 2), (2, .iconst 0, 3), (3, .istore_n 3, 4), (4, .iload_n 3, 5), (5, .aload_n 0, 6), (6, .iconst 2, 7), (7, .invokevirtual 78, 10), (10, .if_icmp .ge 36, 13), (13, .iload_n 2, 14), (14, .aload_n 0, 15), (15, .iload_n 3, 16), (16, .iload_n 1, 17), (17, .invokevirtual 95, 20), (20, .ifCond .le 27, 23), (23, .iconst 1, 24), (24, .goto 28, 27), (27, .iconst 0, 28), (28, .iadd, 29), (29, .istore_n 2, 30), (30, .iinc 3 1, 33), (33, .goto 4, 36), (36, .iload_n 2, 37), (37, .ireturn, 38)]
def k_198 : List (Nat × Instr × Nat) := [(0, .iload_n 1, 1), (1, .tableswitch 100 0 7 #[48, 54, 60, 66, 73, 80, 87, 94], 48), (48, .aload_n 0, 49), (49, .iconst 0, 50), (50, .invokevirtual 78, 53), (53, .ireturn, 54), (54, .aload_n 0, 55), (55, .iconst 1, 56), (56, .invokevirtual 78, 59), (59, .ireturn, 60), (60, .aload_n 0, 61), (61, .iconst 2, 62), (62, .invokevirtual 78, 65), (65, .ireturn, 66), (66, .aload_n 0, 67), (67, .bipush 6, 69), (69, .invokevirtual 327, 72), (72, .ireturn, 73), (73, .aload_n 0, 74), (74, .bipush 7, 76), (76, .invokevirtual 327, 79), (79, .ireturn, 80), (80, .aload_n 0, 81), (81, .bipush 8, 83), (83, .invokevirtual 327, 86), (86, .ireturn, 87), (87, .aload_n 0, 88), (88, .bipush 9, 90), (90, .invokevirtual 327, 93), (93, .ireturn, 94), (94, .aload_n 0, 95), (95, .iconst 3, 96), (96, .invokevirtual 78, 99), (99, .ireturn, 100), (100, .aload_n 0, 101), (101, .iconst 4, 102), (102, .invokevirtual 78, 105), (105, .ireturn, 106)]
def k_199 : List (Nat × Instr × Nat) := [(0, .aload_n 0, 1), (1, .iconst 0, 2), (2, .putfield 62, 5), (5, .aload_n 0, 6), (6, .iload_n 1, 7), (7, .i2l, 8), (8, .lconst 0, 9), (9, .ldc2_w 330, 12), (12, .invokestatic 104, 15), (15, .iconst 1, 16), (16, .invokevirtual 317, 19), (19, .ifCond .eq 30, 22), (22, .aload_n 0, 23), (23, .iload_n 1, 24), (24, .invokevirtual 332, 27), (27, .goto 31, 30), (30, .iconst 0, 31), (31, .ireturn, 32)]
def k_200 : List (Nat × Instr × Nat) := [(0, .aload_n 0, 1), (1, .iload_n 1, 2), (2, .i2l, 3), (3, .lconst 0, 4), (4, .aload_n 0, 5), (5, .iconst 0, 6), (6, .invokevirtual 78, 9), (9, .iconst 1, 10), (10, .isub, 11), (11, .i2l, 12), (12, .invokestatic 104, 15), (15, .iload_n 2, 16), (16, .invokevirtual 317, 19), (19, .ifCond .ne 26, 22), (22, .iconst 1, 23), (23, .goto 27, 26), (26, .iconst 0, 27), (27, .ireturn, 28)]
def k_201 : List (Nat × Instr × Nat) := [(0, .aload_n 0, 1), (1, .iconst 0, 2), (2, .putfield 62, 5), (5, .aload_n 0, 6), (6, .iload_n 1, 7), (7, .iconst 1, 8), (8, .invokevirtual 335, 11), (11, .ifCond .eq 18, 14), (14, .iconst 0, 15), (15, .goto 23, 18), (18, .aload_n 0, 19), (19, .iload_n 1, 20), (20, .invokevirtual 101, 23), (23, .ireturn, 24)]
def k_202 : List (Nat × Instr × Nat) := [(0, .aload_n 0, 1), (1, .iconst 0, 2), (2, .putfield 62, 5), (5, .aload_n 0, 6), (6, .iload_n 1, 7), (7, .iconst 1, 8), (8, .invokevirtual 335, 11), (11, .ifCond .ne 36, 14), (14, .aload_n 0, 15), (15, .iload_n 2, 16), (16, .i2l, 17), (17, .lconst 0, 18), (18, .aload_n 0, 19), (19, .iload_n 1, 20), (20, .invokevirtual 101, 23), (23, .iconst 1, 24), (24, .isub, 25), (25, .i2l, 26), (26, .invokestatic 104, 29), (29, .iconst 1, 30), (30, .invokevirtual 317, 33), (33, .ifCond .ne 40, 36), (36, .iconst 0, 37), (37, .goto 46, 40), (40, .aload_n 0, 41), (41, .iload_n 1, 42), (42, .iload_n 2, 43), (43, .invokevirtual 98, 46), (46, .ireturn, 47)]
def k_203 : List (Nat × Instr × Nat) := [(0, .aload_n 0, 1), (1, .iload_n 1, 2), (2, .invokevirtual 112, 5), (5, .istore_n 2, 6), (6, .aload_n 0, 7), (7, .iload_n 2, 8), (8, .iconst (-1), 9), (9, .if_icmp .eq 16, 12), (12, .iconst 1, 13), (13, .goto 17, 16), (16, .iconst 0, 17), (17, .iconst 1, 18), (18, .invokevirtual 317, 21), (21, .istore_n 3, 22), (22, .iload_n 2, 23), (23, .ireturn, 24)]
def k_204 : List (Nat × Instr × Nat) := [(0, .aload_n 0, 1), (1, .getfield 62, 4), (4, .ifCond .ne 21, 7), (7, .aload_n 0, 8), (8, .aload_n 0, 9), (9, .iload_n 1, 10), (10, .iload_n 2, 11), (11, .invokevirtual 119, 14), (14, .iconst 1, 15), (15, .invokevirtual 317, 18), (18, .ifCond .ne 25, 21), (21, .iconst 1, 22), (22, .goto 26, 25), (25, .iconst 0, 26), (26, .ireturn, 27)]
def k_205 : List (Nat × Instr × Nat) := [(0, .aload_n 0, 1), (1, .iconst 0, 2), (2, .putfield 62, 5), (5, .aload_n 0, 6), (6, .iload_n 1, 7), (7, .invokevirtual 338, 10), (10, .istore_n 3, 11), (11, .aload_n 0, 12), (12, .iload_n 2, 13), (13, .i2l, 14), (14, .lconst 0, 15), (15, .ldc2_w 330, 18), (18, .invokestatic 104, 21), (21, .iconst 2, 22), (22, .invokevirtual 317, 25), (25, .ifCond .ne 32, 28), (28, .iconst 0, 29), (29, .goto 40, 32), (32, .aload_n 0, 33), (33, .iload_n 3, 34), (34, .iconst 1, 35), (35, .iload_n 2, 36), (36, .iadd, 37), (37, .invokevirtual 95, 40), (40, .ireturn, 41)]
def k_206 : List (Nat × Instr × Nat) := [(0, .aload_n 0, 1), (1, .iconst 0, 2), (2, .putfield 62, 5), (5, .aload_n 0, 6), (6, .iload_n 1, 7), (7, .i2l, 8), (8, .lconst 0, 9), (9, .aload_n 0, 10), (10, .iconst 2, 11), (11, .invokevirtual 78, 14), (14, .iconst 1, 15), (15, .isub, 16), (16, .i2l, 17), (17, .invokestatic 104, 20), (20, .iconst 1, 21), (21, .invokevirtual 317, 24), (24, .ifCond .eq 36, 27), (27, .aload_n 0, 28), (28, .iload_n 1, 29), (29, .iconst 0, 30), (30, .invokevirtual 95, 33), (33, .goto 37, 36), (36, .iconst 0, 37), (37, .ireturn, 38)]
def k_207 : List (Nat × Instr × Nat) := [(0, .aload_n 0, 1), (1, .iconst 0, 2), (2, .putfield 62, 5), (5, .aload_n 0, 6), (6, .iload_n 1, 7), (7, .invokevirtual 338, 10), (10, .istore_n 3, 11), (11, .aload_n 0, 12), (12, .iload_n 3, 13), (13, .iload_n 2, 14), (14, .invokevirtual 341, 17), (17, .ifCond .eq 22, 20), (20, .iconst 0, 21), (21, .ireturn, 22), (22, .aload_n 0, 23), (23, .iload_n 3, 24), (24, .iload_n 2, 25), (25, .invokevirtual 123, 28), (28, .istore 4, 30), (30, .iload 4, 32), (32, .iconst (-1), 33), (33, .if_icmp .ne 40, 36), (36, .iconst (-1), 37), (37, .goto 47, 40), (40, .aload_n 0, 41), (41, .iload 4, 43), (43, .iconst 0, 44), (44, .invokevirtual 95, 47), (47, .ireturn, 48)]
def k_208 : List (Nat × Instr × Nat) := [(0, .aload_n 0, 1), (1, .iconst 0, 2), (2, .putfield 62, 5), (5, .aload_n 0, 6), (6, .iload_n 1, 7), (7, .i2l, 8), (8, .lconst 0, 9), (9, .aload_n 0, 10), (10, .iconst 1, 11), (11, .invokevirtual 78, 14), (14, .iconst 1, 15), (15, .isub, 16), (16, .i2l, 17), (17, .invokestatic 104, 20), (20, .iconst 1, 21), (21, .invokevirtual 317, 24), (24, .ifCond .eq 46, 27), (27, .aload_n 0, 28), (28, .iload_n 2, 29), (29, .i2l, 30), (30, .lconst 0, 31), (31, .aload_n 0, 32), (32, .getfield 196, 35), (35, .i2l, 36), (36, .invokestatic 104, 39), (39, .iconst 2, 40), (40, .invokevirtual 317, 43), (43, .ifCond .ne 48, 46), (46, .iconst 0, 47), (47, .ireturn, 48), (48, .aload_n 0, 49), (49, .iload_n 2, 50), (50, .putfield 208, 53), (53, .aload_n 0, 54), (54, .iconst 0, 55), (55, .putfield 196, 58), (58, .aload_n 0, 59), (59, .iconst (-1), 60), (60, .putfield 35, 63), (63, .aload_n 0, 64), (64, .iconst 0, 65), (65, .putfield 205, 68), (68, .aload_n 0, 69), (69, .iconst 0, 70), (70, .putfield 199, 73), (73, .aload_n 0, 74), (74, .iload_n 1, 75), (75, .invokevirtual 280, 78), (78, .aload_n 0, 79), (79, .getfield 199, 82), (82, .ifCond .ne 103, 85), (85, .aload_n 0, 86), (86, .invokevirtual 211, 89), (89, .iconst (-1), 90), (90, .if_icmp .eq 103, 93), (93, .aload_n 0, 94), (94, .bipush (-12), 96), (96, .aload_n 0, 97), (97, .getfield 205, 100), (100, .invokevirtual 226, 103), (103, .aload_n 0, 104), (104, .getfield 199, 107), (107, .ifCond .ne 128, 110), (110, .bipush 100, 112), (112, .aload_n 0, 113), (113, .aload_n 0, 114), (114, .getfield 187, 117), (117, .iconst 0, 118), (118, .invokevirtual 95, 121), (121, .imul, 122), (122, .aload_n 0, 123), (123, .getfield 190, 126), (126, .iadd, 127), (127, .ireturn, 128), (128, .aload_n 0, 129), (129, .aload_n 0, 130), (130, .getfield 202, 133), (133, .putfield 35, 136), (136, .aload_n 0, 137), (137, .getfield 199, 140), (140, .ireturn, 141)]
def k_209 : List (Nat × Instr × Nat) := [(0, .aload_n 0, 1), (1, .iload_n 1, 2), (2, .putfield 187, 5), (5, .aload_n 0, 6), (6, .iload_n 2, 7), (7, .putfield 190, 10), (10, .aload_n 0, 11), (11, .invokevirtual 193, 14), (14, .bipush 12, 16), (16, .aload_n 0, 17), (17, .getfield 187, 20), (20, .imul, 21), (21, .aload_n 0, 22), (22, .getfield 190, 25), (25, .iadd, 26), (26, .istore_n 3, 27), (27, .aload_n 0, 28), (28, .getfield 39, 31), (31, .iload_n 3, 32), (32, .baload, 33), (33, .ifCond .ne 40, 36), (36, .iconst 1, 37), (37, .goto 41, 40), (40, .iconst 0, 41), (41, .istore 4, 43), (43, .aload_n 0, 44), (44, .getfield 39, 47), (47, .iload_n 3, 48), (48, .iconst 1, 49), (49, .bastore, 50), (50, .iload 4, 52), (52, .ireturn, 53)]
def k_210 : List (Nat × Instr × Nat) := [(0, .iconst 0, 1), (1, .istore_n 3, 2), (2, .iconst 1, 3), (3, .istore 4, 5), (5, .iload 4, 7), (7, .aload_n 0, 8), (8, .aload_n 0, 9), (9, .iload_n 1, 10), (10, .iconst 2, 11), (11, .invokevirtual 95, 14), (14, .invokevirtual 101, 17), (17, .if_icmp .ge 62, 20), (20, .aload_n 0, 21), (21, .aload_n 0, 22), (22, .iload_n 1, 23), (23, .iconst 2, 24), (24, .invokevirtual 95, 27), (27, .iload 4, 29), (29, .invokevirtual 98, 32), (32, .iload_n 2, 33), (33, .if_icmp .ne 46, 36), (36, .aload_n 0, 37), (37, .iload_n 1, 38), (38, .iload 4, 40), (40, .invokevirtual 344, 43), (43, .ifCond .ne 50, 46), (46, .iload_n 3, 47), (47, .ifCond .eq 54, 50), (50, .iconst 1, 51), (51, .goto 55, 54), (54, .iconst 0, 55), (55, .istore_n 3, 56), (56, .iinc 4 1, 59), (59, .goto 5, 62), (62, .iload_n 3, 63), (63, .ireturn, 64)]
def k_211 : List (Nat × Instr × Nat) := [(0, .iconst 0, 1), (1, .istore_n 2, 2), (2, .iload_n 2, 3), (3, .sipush 480, 6), (6, .if_icmp .ge 22, 9), (9, .aload_n 0, 10), (10, .getfield 39, 13), (13, .iload_n 2, 14), (14, .iconst 0, 15), (15, .bastore, 16), (16, .iinc 2 1, 19), (19, .goto 2, 22), (22, .aload_n 0, 23), (23, .iload_n 1, 24), (24, .invokevirtual 269, 27), (27, .aload_n 0, 28), (28, .aload_n 0, 29), (29, .getfield 187, 32), (32, .aload_n 0, 33), (33, .getfield 190, 36), (36, .invokevirtual 344, 39), (39, .istore_n 2, 40), (40, .iload_n 2, 41), (41, .ifCond .eq 98, 44), (44, .iconst 0, 45), (45, .istore_n 2, 46), (46, .iconst 0, 47), (47, .istore_n 3, 48), (48, .iload_n 3, 49), (49, .sipush 480, 52), (52, .if_icmp .ge 95, 55), (55, .aload_n 0, 56), (56, .getfield 39, 59), (59, .iload_n 3, 60), (60, .baload, 61), (61, .ifCond .eq 79, 64), (64, .aload_n 0, 65), (65, .iload_n 3, 66), (66, .bipush 12, 68), (68, .idiv, 69), (69, .iload_n 3, 70), (70, .bipush 12, 72), (72, .irem, 73), (73, .invokevirtual 347, 76), (76, .ifCond .ne 83, 79), (79, .iload_n 2, 80), (80, .ifCond .eq 87, 83), (83, .iconst 1, 84), (84, .goto 88, 87), (87, .iconst 0, 88), (88, .istore_n 2, 89), (89, .iinc 3 1, 92), (92, .goto 48, 95), (95, .goto 40, 98), (98, .iconst 0, 99), (99, .istore_n 3, 100), (100, .iconst 0, 101), (101, .istore 4, 103), (103, .iload 4, 105), (105, .sipush 480, 108), (108, .if_icmp .ge 135, 111), (111, .iload_n 3, 112), (112, .aload_n 0, 113), (113, .getfield 39, 116), (116, .iload 4, 118), (118, .baload, 119), (119, .ifCond .eq 126, 122), (122, .iconst 1, 123), (123, .goto 127, 126), (126, .iconst 0, 127), (127, .iadd, 128), (128, .istore_n 3, 129), (129, .iinc 4 1, 132), (132, .goto 103, 135), (135, .iload_n 3, 136), (136, .ireturn, 137)]
def k_212 : List (Nat × Instr × Nat) := [(0, .aload_n 0, 1), (1, .iconst 0, 2), (2, .putfield 62, 5), (5, .aload_n 0, 6), (6, .iload_n 1, 7), (7, .i2l, 8), (8, .lconst 0, 9), (9, .aload_n 0, 10), (10, .iconst 1, 11), (11, .invokevirtual 78, 14), (14, .iconst 1, 15), (15, .isub, 16), (16, .i2l, 17), (17, .invokestatic 104, 20), (20, .iconst 1, 21), (21, .invokevirtual 317, 24), (24, .ifCond .eq 35, 27), (27, .aload_n 0, 28), (28, .iload_n 1, 29), (29, .invokevirtual 350, 32), (32, .goto 36, 35), (35, .iconst 0, 36), (36, .ireturn, 37)]
def k_213 : List (Nat × Instr × Nat) := [(0, .aload_n 0, 1), (1, .iconst 0, 2), (2, .putfield 62, 5), (5, .aload_n 0, 6), (6, .iload_n 1, 7), (7, .invokevirtual 338, 10), (10, .istore_n 3, 11), (11, .aload_n 0, 12), (12, .iload_n 3, 13), (13, .iload_n 2, 14), (14, .invokevirtual 341, 17), (17, .ifCond .eq 22, 20), (20, .iconst 0, 21), (21, .ireturn, 22), (22, .aload_n 0, 23), (23, .aload_n 0, 24), (24, .iload_n 3, 25), (25, .iconst 1, 26), (26, .invokevirtual 95, 29), (29, .invokevirtual 350, 32), (32, .istore 4, 34), (34, .aload_n 0, 35), (35, .getfield 39, 38), (38, .bipush 12, 40), (40, .iload_n 3, 41), (41, .imul, 42), (42, .iload_n 2, 43), (43, .iadd, 44), (44, .baload, 45), (45, .ireturn, 46)]
def k_214 : List (Nat × Instr × Nat) := [(0, .aload_n 0, 1), (1, .iconst 0, 2), (2, .putfield 62, 5), (5, .aload_n 0, 6), (6, .iload_n 1, 7), (7, .invokevirtual 338, 10), (10, .istore_n 2, 11), (11, .aload_n 0, 12), (12, .getfield 62, 15), (15, .ifCond .eq 22, 18), (18, .iconst 0, 19), (19, .goto 27, 22), (22, .aload_n 0, 23), (23, .iload_n 2, 24), (24, .invokevirtual 149, 27), (27, .ireturn, 28)]
def k_215 : List (Nat × Instr × Nat) := [(0, .aload_n 0, 1), (1, .iconst 0, 2), (2, .putfield 62, 5), (5, .aload_n 0, 6), (6, .iload_n 1, 7), (7, .invokevirtual 338, 10), (10, .istore_n 3, 11), (11, .aload_n 0, 12), (12, .iload_n 3, 13), (13, .iload_n 2, 14), (14, .invokevirtual 341, 17), (17, .ifCond .ne 30, 20), (20, .aload_n 0, 21), (21, .iload_n 3, 22), (22, .iload_n 2, 23), (23, .invokevirtual 123, 26), (26, .iconst (-1), 27), (27, .if_icmp .eq 32, 30), (30, .iconst 0, 31), (31, .ireturn, 32), (32, .aload_n 0, 33), (33, .iload_n 3, 34), (34, .invokevirtual 149, 37), (37, .istore 4, 39), (39, .iconst 1, 40), (40, .aload_n 0, 41), (41, .iload_n 3, 42), (42, .iload_n 2, 43), (43, .invokevirtual 152, 46), (46, .iadd, 47), (47, .ireturn, 48)]
def k_216 : List (Nat × Instr × Nat) := [(0, .aload_n 0, 1), (1, .getfield 42, 4), (4, .aload_n 0, 5), (5, .getfield 353, 8), (8, .bipush 47, 10), (10, .iastore, 11), (11, .aload_n 0, 12), (12, .dup, 13), (13, .getfield 353, 16), (16, .iconst 1, 17), (17, .iadd, 18), (18, .putfield 353, 21), (21, .iconst 0, 22), (22, .istore_n 3, 23), (23, .iload_n 3, 24), (24, .bipush 6, 26), (26, .if_icmp .ge 77, 29), (29, .aload_n 0, 30), (30, .iload_n 1, 31), (31, .iload_n 2, 32), (32, .iload_n 3, 33), (33, .invokestatic 85, 36), (36, .invokevirtual 78, 39), (39, .ifCond .le 77, 42), (42, .aload_n 0, 43), (43, .getfield 42, 46), (46, .aload_n 0, 47), (47, .getfield 353, 50), (50, .aload_n 0, 51), (51, .iload_n 1, 52), (52, .iload_n 2, 53), (53, .iload_n 3, 54), (54, .invokestatic 85, 57), (57, .invokevirtual 78, 60), (60, .iastore, 61), (61, .aload_n 0, 62), (62, .dup, 63), (63, .getfield 353, 66), (66, .iconst 1, 67), (67, .iadd, 68), (68, .putfield 353, 71), (71, .iinc 3 1, 74), (74, .goto 23, 77), (77, .return_, 78)]
def k_217 : List (Nat × Instr × Nat) := [(0, .aload_n 0, 1), (1, .iload_n 1, 2), (2, .iconst 2, 3), (3, .invokevirtual 95, 6), (6, .istore_n 3, 7), (7, .iconst 0, 8), (8, .istore 4, 10), (10, .iload_n 2, 11), (11, .istore 5, 13), (13, .iload 5, 15), (15, .aload_n 0, 16), (16, .iload_n 1, 17), (17, .iconst 3, 18), (18, .invokevirtual 95, 21), (21, .if_icmp .eq 48, 24), (24, .aload_n 0, 25), (25, .getfield 48, 28), (28, .iload 4, 30), (30, .iload 5, 32), (32, .iastore, 33), (33, .iinc 4 1, 36), (36, .aload_n 0, 37), (37, .iload_n 3, 38), (38, .iload 5, 40), (40, .invokevirtual 98, 43), (43, .istore 5, 45), (45, .goto 13, 48), (48, .iload 4, 50), (50, .iconst 1, 51), (51, .isub, 52), (52, .istore 5, 54), (54, .iload 5, 56), (56, .ifCond .lt 77, 59), (59, .aload_n 0, 60), (60, .iload_n 3, 61), (61, .aload_n 0, 62), (62, .getfield 48, 65), (65, .iload 5, 67), (67, .iaload, 68), (68, .invokevirtual 356, 71), (71, .iinc 5 (-1), 74), (74, .goto 54, 77), (77, .return_, 78)]
def k_218 : List (Nat × Instr × Nat) := [(0, .aload_n 0, 1), (1, .iconst 0, 2), (2, .putfield 62, 5), (5, .aload_n 0, 6), (6, .iload_n 1, 7), (7, .invokevirtual 338, 10), (10, .istore_n 2, 11), (11, .aload_n 0, 12), (12, .getfield 62, 15), (15, .ifCond .eq 20, 18), (18, .iconst 0, 19), (19, .ireturn, 20), (20, .aload_n 0, 21), (21, .iconst 0, 22), (22, .putfield 353, 25), (25, .iconst 0, 26), (26, .istore_n 3, 27), (27, .iload_n 2, 28), (28, .istore 4, 30), (30, .iload 4, 32), (32, .iconst (-1), 33), (33, .if_icmp .eq 78, 36), (36, .aload_n 0, 37), (37, .getfield 45, 40), (40, .iload_n 3, 41), (41, .iload 4, 43), (43, .iastore, 44), (44, .iinc 3 1, 47), (47, .aload_n 0, 48), (48, .iload 4, 50), (50, .iconst 4, 51), (51, .invokevirtual 95, 54), (54, .iconst (-1), 55), (55, .if_icmp .ne 62, 58), (58, .iconst (-1), 59), (59, .goto 73, 62), (62, .aload_n 0, 63), (63, .aload_n 0, 64), (64, .iload 4, 66), (66, .iconst 4, 67), (67, .invokevirtual 95, 70), (70, .invokevirtual 112, 73), (73, .istore 4, 75), (75, .goto 30, 78), (78, .iload_n 3, 79), (79, .iconst 1, 80), (80, .isub, 81), (81, .istore 4, 83), (83, .iload 4, 85), (85, .ifCond .le 119, 88), (88, .aload_n 0, 89), (89, .aload_n 0, 90), (90, .getfield 45, 93), (93, .iload 4, 95), (95, .iaload, 96), (96, .aload_n 0, 97), (97, .aload_n 0, 98), (98, .getfield 45, 101), (101, .iload 4, 103), (103, .iconst 1, 104), (104, .isub, 105), (105, .iaload, 106), (106, .iconst 5, 107), (107, .invokevirtual 95, 110), (110, .invokevirtual 359, 113), (113, .iinc 4 (-1), 116), (116, .goto 83, 119), (119, .aload_n 0, 120), (120, .getfield 353, 123), (123, .ifCond .ne 139, 126), (126, .aload_n 0, 127), (127, .getfield 42, 130), (130, .iconst 0, 131), (131, .bipush 47, 133), (133, .iastore, 134), (134, .aload_n 0, 135), (135, .iconst 1, 136), (136, .putfield 353, 139), (139, .aload_n 0, 140), (140, .getfield 353, 143), (143, .ireturn, 144)]
def k_219 : List (Nat × Instr × Nat) := [(0, .aload_n 0, 1), (1, .iconst 0, 2), (2, .putfield 62, 5), (5, .aload_n 0, 6), (6, .iload_n 1, 7), (7, .i2l, 8), (8, .lconst 0, 9), (9, .aload_n 0, 10), (10, .getfield 353, 13), (13, .iconst 1, 14), (14, .isub, 15), (15, .i2l, 16), (16, .invokestatic 104, 19), (19, .iconst 1, 20), (20, .invokevirtual 317, 23), (23, .ifCond .eq 35, 26), (26, .aload_n 0, 27), (27, .getfield 42, 30), (30, .iload_n 1, 31), (31, .iaload, 32), (32, .goto 36, 35), (35, .iconst 0, 36), (36, .ireturn, 37)]
def k_220 : List (Nat × Instr × Nat) := [(0, .aload_n 0, 1), (1, .iconst 0, 2), (2, .putfield 62, 5), (5, .aload_n 0, 6), (6, .iload_n 1, 7), (7, .invokevirtual 338, 10), (10, .istore 4, 12), (12, .aload_n 0, 13), (13, .iload 4, 15), (15, .iload_n 2, 16), (16, .invokevirtual 341, 19), (19, .ifCond .ne 31, 22), (22, .aload_n 0, 23), (23, .iload_n 3, 24), (24, .iconst 2, 25), (25, .invokevirtual 335, 28), (28, .ifCond .eq 33, 31), (31, .iconst 0, 32), (32, .ireturn, 33), (33, .aload_n 0, 34), (34, .invokevirtual 324, 37), (37, .aload_n 0, 38), (38, .iload 4, 40), (40, .iload_n 2, 41), (41, .iload_n 3, 42), (42, .invokevirtual 286, 45), (45, .ireturn, 46)]
def k_221 : List (Nat × Instr × Nat) := [(0, .aload_n 0, 1), (1, .iconst 0, 2), (2, .putfield 62, 5), (5, .aload_n 0, 6), (6, .iload_n 1, 7), (7, .invokevirtual 338, 10), (10, .istore 5, 12), (12, .aload_n 0, 13), (13, .iload 5, 15), (15, .iload_n 2, 16), (16, .invokevirtual 341, 19), (19, .ifCond .eq 24, 22), (22, .iconst 0, 23), (23, .ireturn, 24), (24, .aload_n 0, 25), (25, .iload_n 3, 26), (26, .invokevirtual 338, 29), (29, .istore 6, 31), (31, .aload_n 0, 32), (32, .iload 6, 34), (34, .iload 4, 36), (36, .invokevirtual 341, 39), (39, .ifCond .eq 44, 42), (42, .iconst 0, 43), (43, .ireturn, 44), (44, .aload_n 0, 45), (45, .invokevirtual 324, 48), (48, .aload_n 0, 49), (49, .iload 5, 51), (51, .iload_n 2, 52), (52, .iload 6, 54), (54, .iload 4, 56), (56, .invokevirtual 291, 59), (59, .ireturn, 60)]
def k_222 : List (Nat × Instr × Nat) := [(0, .aload_n 0, 1), (1, .iconst 0, 2), (2, .putfield 62, 5), (5, .aload_n 0, 6), (6, .iload_n 1, 7), (7, .invokevirtual 338, 10), (10, .istore 4, 12), (12, .aload_n 0, 13), (13, .getfield 62, 16), (16, .ifCond .eq 21, 19), (19, .iconst 0, 20), (20, .ireturn, 21), (21, .aload_n 0, 22), (22, .iload_n 2, 23), (23, .invokevirtual 338, 26), (26, .istore 5, 28), (28, .aload_n 0, 29), (29, .iload 5, 31), (31, .iload_n 3, 32), (32, .invokevirtual 341, 35), (35, .ifCond .eq 40, 38), (38, .iconst 0, 39), (39, .ireturn, 40), (40, .aload_n 0, 41), (41, .invokevirtual 324, 44), (44, .aload_n 0, 45), (45, .iload 4, 47), (47, .iload 5, 49), (49, .iload_n 3, 50), (50, .invokevirtual 362, 53), (53, .ireturn, 54)]
def k_223 : List (Nat × Instr × Nat) := [(0, .aload_n 0, 1), (1, .iconst 0, 2), (2, .putfield 62, 5), (5, .aload_n 0, 6), (6, .iload_n 1, 7), (7, .invokevirtual 338, 10), (10, .istore_n 2, 11), (11, .aload_n 0, 12), (12, .getfield 62, 15), (15, .ifCond .eq 20, 18), (18, .iconst 0, 19), (19, .ireturn, 20), (20, .aload_n 0, 21), (21, .invokevirtual 324, 24), (24, .aload_n 0, 25), (25, .iload_n 2, 26), (26, .invokevirtual 365, 29), (29, .ireturn, 30)]
def k_224 : List (Nat × Instr × Nat) := [(0, .aload_n 0, 1), (1, .iconst 0, 2), (2, .putfield 62, 5), (5, .aload_n 0, 6), (6, .iload_n 1, 7), (7, .invokevirtual 338, 10), (10, .istore_n 3, 11), (11, .aload_n 0, 12), (12, .iload_n 2, 13), (13, .i2l, 14), (14, .lconst 0, 15), (15, .ldc2_w 368, 18), (18, .invokestatic 104, 21), (21, .iconst 2, 22), (22, .invokevirtual 317, 25), (25, .ifCond .ne 30, 28), (28, .iconst 0, 29), (29, .ireturn, 30), (30, .aload_n 0, 31), (31, .invokevirtual 324, 34), (34, .aload_n 0, 35), (35, .iload_n 3, 36), (36, .iload_n 2, 37), (37, .invokevirtual 305, 40), (40, .aload_n 0, 41), (41, .iload_n 3, 42), (42, .bipush 6, 44), (44, .invokevirtual 95, 47), (47, .ireturn, 48)]
def k_225 : List (Nat × Instr × Nat) := [(0, .aload_n 0, 1), (1, .iconst 0, 2), (2, .putfield 62, 5), (5, .aload_n 0, 6), (6, .iload_n 1, 7), (7, .i2l, 8), (8, .lconst 0, 9), (9, .aload_n 0, 10), (10, .iconst 1, 11), (11, .invokevirtual 78, 14), (14, .iconst 1, 15), (15, .isub, 16), (16, .i2l, 17), (17, .invokestatic 104, 20), (20, .iconst 1, 21), (21, .invokevirtual 317, 24), (24, .ifCond .ne 29, 27), (27, .iconst 0, 28), (28, .ireturn, 29), (29, .aload_n 0, 30), (30, .invokevirtual 324, 33), (33, .aload_n 0, 34), (34, .iload_n 1, 35), (35, .iload_n 2, 36), (36, .invokevirtual 370, 39), (39, .ireturn, 40)]
def k_226 : List (Nat × Instr × Nat) := [(0, .aload_n 0, 1), (1, .iconst 0, 2), (2, .putfield 62, 5), (5, .aload_n 0, 6), (6, .aload_n 0, 7), (7, .iconst 1, 8), (8, .invokevirtual 78, 11), (11, .iconst 1, 12), (12, .if_icmp .le 19, 15), (15, .iconst 1, 16), (16, .goto 20, 19), (19, .iconst 0, 20), (20, .iconst 1, 21), (21, .invokevirtual 317, 24), (24, .ifCond .ne 29, 27), (27, .iconst 0, 28), (28, .ireturn, 29), (29, .aload_n 0, 30), (30, .invokevirtual 324, 33), (33, .aload_n 0, 34), (34, .iconst 1, 35), (35, .iconst (-1), 36), (36, .invokevirtual 92, 39), (39, .aload_n 0, 40), (40, .iconst 2, 41), (41, .invokevirtual 78, 44), (44, .iconst 1, 45), (45, .isub, 46), (46, .istore_n 1, 47), (47, .iload_n 1, 48), (48, .ifCond .lt 76, 51), (51, .aload_n 0, 52), (52, .iload_n 1, 53), (53, .iconst 1, 54), (54, .invokevirtual 95, 57), (57, .aload_n 0, 58), (58, .iconst 1, 59), (59, .invokevirtual 78, 62), (62, .if_icmp .ne 70, 65), (65, .aload_n 0, 66), (66, .iload_n 1, 67), (67, .invokevirtual 171, 70), (70, .iinc 1 (-1), 73), (73, .goto 47, 76), (76, .aload_n 0, 77), (77, .iconst 2, 78), (78, .invokevirtual 78, 81), (81, .ireturn, 82)]
def k_227 : List (Nat × Instr × Nat) := [(0, .aload_n 0, 1), (1, .iconst 0, 2), (2, .putfield 62, 5), (5, .aload_n 0, 6), (6, .getfield 71, 9), (9, .ifCond .ne 14, 12), (12, .iconst (-1), 13), (13, .ireturn, 14), (14, .aload_n 0, 15), (15, .dup, 16), (16, .getfield 71, 19), (19, .iconst 1, 20), (20, .isub, 21), (21, .putfield 71, 24), (24, .aload_n 0, 25), (25, .aload_n 0, 26), (26, .getfield 65, 29), (29, .bipush 9, 31), (31, .iadd, 32), (32, .iconst 1, 33), (33, .isub, 34), (34, .bipush 9, 36), (36, .irem, 37), (37, .putfield 65, 40), (40, .aload_n 0, 41), (41, .getfield 71, 44), (44, .ireturn, 45)]
def k_228 : List (Nat × Instr × Nat) := [(0, .aload_n 0, 1), (1, .ldc2_w 374, 4), (4, .aload_n 0, 5), (5, .getfield 376, 8), (8, .lmul, 9), (9, .lload_n 1, 10), (10, .ladd, 11), (11, .putfield 376, 14), (14, .return_, 15)]
def k_229 : List (Nat × Instr × Nat) := [(0, .aload_n 0, 1), (1, .iconst 0, 2), (2, .putfield 62, 5), (5, .aload_n 0, 6), (6, .lconst 0, 7), (7, .putfield 376, 10), (10, .iconst 0, 11), (11, .istore_n 1, 12), (12, .iload_n 1, 13), (13, .bipush 9, 15), (15, .if_icmp .ge 34, 18), (18, .aload_n 0, 19), (19, .aload_n 0, 20), (20, .iload_n 1, 21), (21, .invokevirtual 332, 24), (24, .i2l, 25), (25, .invokevirtual 380, 28), (28, .iinc 1 1, 31), (31, .goto 12, 34), (34, .iconst 0, 35), (35, .istore_n 1, 36), (36, .iload_n 1, 37), (37, .aload_n 0, 38), (38, .iconst 0, 39), (39, .invokevirtual 78, 42), (42, .if_icmp .ge 89, 45), (45, .aload_n 0, 46), (46, .aload_n 0, 47), (47, .iload_n 1, 48), (48, .invokevirtual 101, 51), (51, .i2l, 52), (52, .invokevirtual 380, 55), (55, .iconst 0, 56), (56, .istore_n 2, 57), (57, .iload_n 2, 58), (58, .aload_n 0, 59), (59, .iload_n 1, 60), (60, .invokevirtual 101, 63), (63, .if_icmp .ge 83, 66), (66, .aload_n 0, 67), (67, .aload_n 0, 68), (68, .iload_n 1, 69), (69, .iload_n 2, 70), (70, .invokevirtual 98, 73), (73, .i2l, 74), (74, .invokevirtual 380, 77), (77, .iinc 2 1, 80), (80, .goto 57, 83), (83, .iinc 1 1, 86), (86, .goto 36, 89), (89, .iconst 0, 90), (90, .istore_n 1, 91), (91, .iload_n 1, 92), (92, .aload_n 0, 93), (93, .iconst 2, 94), (94, .invokevirtual 78, 97), (97, .if_icmp .ge 141, 100), (100, .iconst 0, 101), (101, .istore_n 2, 102), (102, .iload_n 2, 103), (103, .bipush 9, 105), (105, .if_icmp .gt 125, 108), (108, .aload_n 0, 109), (109, .aload_n 0, 110), (110, .iload_n 1, 111), (111, .iload_n 2, 112), (112, .invokevirtual 95, 115), (115, .i2l, 116), (116, .invokevirtual 380, 119), (119, .iinc 2 1, 122), (122, .goto 102, 125), (125, .aload_n 0, 126), (126, .aload_n 0, 127), (127, .iload_n 1, 128), (128, .invokevirtual 149, 131), (131, .i2l, 132), (132, .invokevirtual 380, 135), (135, .iinc 1 1, 138), (138, .goto 91, 141), (141, .iconst 0, 142), (142, .istore_n 1, 143), (143, .iload_n 1, 144), (144, .aload_n 0, 145), (145, .iconst 1, 146), (146, .invokevirtual 78, 149), (149, .if_icmp .ge 168, 152), (152, .aload_n 0, 153), (153, .aload_n 0, 154), (154, .iload_n 1, 155), (155, .invokevirtual 350, 158), (158, .i2l, 159), (159, .invokevirtual 380, 162), (162, .iinc 1 1, 165), (165, .goto 143, 168), (168, .aload_n 0, 169), (169, .getfield 376, 172), (172, .lreturn, 173)]
def k_230 : List (Nat × Instr × Nat) := [(0, .aload_n 2, 1), (1, .iconst 0, 2), (2, .aload_n 0, 3), (3, .iload_n 1, 4), (4, .invokevirtual 7, 7), (7, .i2l, 8), (8, .lastore, 9), (9, .goto 15, 12), (12, .astore_n 3, 13), (13, .iconst 1, 14), (14, .ireturn, 15), (15, .iconst 0, 16), (16, .ireturn, 17)]
def k_231 : List (Nat × Instr × Nat) := [(0, .aload_n 2, 1), (1, .iconst 0, 2), (2, .aload_n 0, 3), (3, .iload_n 1, 4), (4, .invokevirtual 15, 7), (7, .i2l, 8), (8, .lastore, 9), (9, .goto 15, 12), (12, .astore_n 3, 13), (13, .iconst 1, 14), (14, .ireturn, 15), (15, .iconst 0, 16), (16, .ireturn, 17)]
def k_232 : List (Nat × Instr × Nat) := [(0, .aload_n 2, 1), (1, .iconst 0, 2), (2, .aload_n 0, 3), (3, .iload_n 1, 4), (4, .invokevirtual 18, 7), (7, .i2l, 8), (8, .lastore, 9), (9, .goto 15, 12), (12, .astore_n 3, 13), (13, .iconst 1, 14), (14, .ireturn, 15), (15, .iconst 0, 16), (16, .ireturn, 17)]
def k_233 : List (Nat × Instr × Nat) := [(0, .aload_n 3, 1), (1, .iconst 0, 2), (2, .aload_n 0, 3), (3, .iload_n 1, 4), (4, .iload_n 2, 5), (5, .invokevirtual 23, 8), (8, .i2l, 9), (9, .lastore, 10), (10, .goto 17, 13), (13, .astore 4, 15), (15, .iconst 1, 16), (16, .ireturn, 17), (17, .iconst 0, 18), (18, .ireturn, 19)]
def k_234 : List (Nat × Instr × Nat) := [(0, .aload_n 3, 1), (1, .iconst 0, 2), (2, .aload_n 0, 3), (3, .iload_n 1, 4), (4, .iload_n 2, 5), (5, .invokevirtual 27, 8), (8, .i2l, 9), (9, .lastore, 10), (10, .goto 21, 13), (13, .astore 4, 15), (15, .iconst 1, 16), (16, .ireturn, 17), (17, .astore 4, 19), (19, .iconst 2, 20), (20, .ireturn, 21), (21, .iconst 0, 22), (22, .ireturn, 23)]
def k_235 : List (Nat × Instr × Nat) := [(0, .aload_n 2, 1), (1, .iconst 0, 2), (2, .aload_n 0, 3), (3, .iload_n 1, 4), (4, .invokevirtual 32, 7), (7, .i2l, 8), (8, .lastore, 9), (9, .goto 15, 12), (12, .astore_n 3, 13), (13, .iconst 1, 14), (14, .ireturn, 15), (15, .iconst 0, 16), (16, .ireturn, 17)]
def k_236 : List (Nat × Instr × Nat) := [(0, .aload_n 3, 1), (1, .iconst 0, 2), (2, .aload_n 0, 3), (3, .iload_n 1, 4), (4, .iload_n 2, 5), (5, .invokevirtual 35, 8), (8, .i2l, 9), (9, .lastore, 10), (10, .goto 17, 13), (13, .astore 4, 15), (15, .iconst 1, 16), (16, .ireturn, 17), (17, .iconst 0, 18), (18, .ireturn, 19)]
def k_237 : List (Nat × Instr × Nat) := [(0, .aload_n 3, 1), (1, .iconst 0, 2), (2, .aload_n 0, 3), (3, .iload_n 1, 4), (4, .iload_n 2, 5), (5, .invokevirtual 38, 8), (8, .i2l, 9), (9, .lastore, 10), (10, .goto 21, 13), (13, .astore 4, 15), (15, .iconst 1, 16), (16, .ireturn, 17), (17, .astore 4, 19), (19, .iconst 2, 20), (20, .ireturn, 21), (21, .iconst 0, 22), (22, .ireturn, 23)]
def k_238 : List (Nat × Instr × Nat) := [(0, .aload_n 2, 1), (1, .iconst 0, 2), (2, .aload_n 0, 3), (3, .iload_n 1, 4), (4, .invokevirtual 41, 7), (7, .i2l, 8), (8, .lastore, 9), (9, .goto 15, 12), (12, .astore_n 3, 13), (13, .iconst 1, 14), (14, .ireturn, 15), (15, .iconst 0, 16), (16, .ireturn, 17)]
def k_239 : List (Nat × Instr × Nat) := [(0, .aload_n 3, 1), (1, .iconst 0, 2), (2, .aload_n 0, 3), (3, .iload_n 1, 4), (4, .iload_n 2, 5), (5, .invokevirtual 44, 8), (8, .ifCond .eq 15, 11), (11, .lconst 1, 12), (12, .goto 16, 15), (15, .lconst 0, 16), (16, .lastore, 17), (17, .goto 24, 20), (20, .astore 4, 22), (22, .iconst 1, 23), (23, .ireturn, 24), (24, .iconst 0, 25), (25, .ireturn, 26)]
def k_240 : List (Nat × Instr × Nat) := [(0, .aload_n 2, 1), (1, .iconst 0, 2), (2, .aload_n 0, 3), (3, .iload_n 1, 4), (4, .invokevirtual 48, 7), (7, .i2l, 8), (8, .lastore, 9), (9, .goto 15, 12), (12, .astore_n 3, 13), (13, .iconst 1, 14), (14, .ireturn, 15), (15, .iconst 0, 16), (16, .ireturn, 17)]
def k_241 : List (Nat × Instr × Nat) := [(0, .aload_n 3, 1), (1, .iconst 0, 2), (2, .aload_n 0, 3), (3, .iload_n 1, 4), (4, .iload_n 2, 5), (5, .invokevirtual 51, 8), (8, .i2l, 9), (9, .lastore, 10), (10, .goto 17, 13), (13, .astore 4, 15), (15, .iconst 1, 16), (16, .ireturn, 17), (17, .iconst 0, 18), (18, .ireturn, 19)]
def k_242 : List (Nat × Instr × Nat) := [(0, .aload_n 2, 1), (1, .iconst 0, 2), (2, .aload_n 0, 3), (3, .iload_n 1, 4), (4, .invokevirtual 54, 7), (7, .i2l, 8), (8, .lastore, 9), (9, .goto 15, 12), (12, .astore_n 3, 13), (13, .iconst 1, 14), (14, .ireturn, 15), (15, .iconst 0, 16), (16, .ireturn, 17)]
def k_243 : List (Nat × Instr × Nat) := [(0, .aload_n 2, 1), (1, .iconst 0, 2), (2, .aload_n 0, 3), (3, .iload_n 1, 4), (4, .invokevirtual 57, 7), (7, .i2l, 8), (8, .lastore, 9), (9, .goto 15, 12), (12, .astore_n 3, 13), (13, .iconst 1, 14), (14, .ireturn, 15), (15, .iconst 0, 16), (16, .ireturn, 17)]
def k_244 : List (Nat × Instr × Nat) := [(0, .aload 4, 2), (2, .iconst 0, 3), (3, .aload_n 0, 4), (4, .iload_n 1, 5), (5, .iload_n 2, 6), (6, .iload_n 3, 7), (7, .invokevirtual 60, 10), (10, .i2l, 11), (11, .lastore, 12), (12, .goto 23, 15), (15, .astore 5, 17), (17, .iconst 1, 18), (18, .ireturn, 19), (19, .astore 5, 21), (21, .iconst 2, 22), (22, .ireturn, 23), (23, .iconst 0, 24), (24, .ireturn, 25)]
def k_245 : List (Nat × Instr × Nat) := [(0, .aload 5, 2), (2, .iconst 0, 3), (3, .aload_n 0, 4), (4, .iload_n 1, 5), (5, .iload_n 2, 6), (6, .iload_n 3, 7), (7, .iload 4, 9), (9, .invokevirtual 64, 12), (12, .i2l, 13), (13, .lastore, 14), (14, .goto 21, 17), (17, .astore 6, 19), (19, .iconst 1, 20), (20, .ireturn, 21), (21, .iconst 0, 22), (22, .ireturn, 23)]
def k_246 : List (Nat × Instr × Nat) := [(0, .aload 4, 2), (2, .iconst 0, 3), (3, .aload_n 0, 4), (4, .iload_n 1, 5), (5, .iload_n 2, 6), (6, .iload_n 3, 7), (7, .invokevirtual 68, 10), (10, .i2l, 11), (11, .lastore, 12), (12, .goto 19, 15), (15, .astore 5, 17), (17, .iconst 1, 18), (18, .ireturn, 19), (19, .iconst 0, 20), (20, .ireturn, 21)]
def k_247 : List (Nat × Instr × Nat) := [(0, .aload_n 2, 1), (1, .iconst 0, 2), (2, .aload_n 0, 3), (3, .iload_n 1, 4), (4, .invokevirtual 71, 7), (7, .i2l, 8), (8, .lastore, 9), (9, .goto 15, 12), (12, .astore_n 3, 13), (13, .iconst 1, 14), (14, .ireturn, 15), (15, .iconst 0, 16), (16, .ireturn, 17)]
def k_248 : List (Nat × Instr × Nat) := [(0, .aload_n 3, 1), (1, .iconst 0, 2), (2, .aload_n 0, 3), (3, .iload_n 1, 4), (4, .iload_n 2, 5), (5, .invokevirtual 74, 8), (8, .i2l, 9), (9, .lastore, 10), (10, .goto 21, 13), (13, .astore 4, 15), (15, .iconst 1, 16), (16, .ireturn, 17), (17, .astore 4, 19), (19, .iconst 2, 20), (20, .ireturn, 21), (21, .iconst 0, 22), (22, .ireturn, 23)]
def k_249 : List (Nat × Instr × Nat) := [(0, .aload_n 3, 1), (1, .iconst 0, 2), (2, .aload_n 0, 3), (3, .iload_n 1, 4), (4, .iload_n 2, 5), (5, .invokevirtual 77, 8), (8, .i2l, 9), (9, .lastore, 10), (10, .goto 17, 13), (13, .astore 4, 15), (15, .iconst 1, 16), (16, .ireturn, 17), (17, .iconst 0, 18), (18, .ireturn, 19)]
def k_250 : List (Nat × Instr × Nat) := [(0, .aload_n 1, 1), (1, .iconst 0, 2), (2, .aload_n 0, 3), (3, .invokevirtual 81, 6), (6, .i2l, 7), (7, .lastore, 8), (8, .goto 14, 11), (11, .astore_n 2, 12), (12, .iconst 1, 13), (13, .ireturn, 14), (14, .iconst 0, 15), (15, .ireturn, 16)]
def k_251 : List (Nat × Instr × Nat) := [(0, .new 8, 3), (3, .dup, 4), (4, .invokespecial 87, 7), (7, .astore_n 1, 8), (8, .new 88, 11), (11, .dup, 12), (12, .invokespecial 90, 15), (15, .astore_n 2, 16), (16, .iconst 1, 17), (17, .newarray .long, 19), (19, .astore_n 3, 20), (20, .iconst 0, 21), (21, .istore 4, 23), (23, .iload 4, 25), (25, .aload_n 0, 26), (26, .arraylength, 27), (27, .bipush 6, 29), (29, .isub, 30), (30, .if_icmp .gt 1642, 33), (33, .aload_n 0, 34), (34, .iload 4, 36), (36, .iaload, 37), (37, .bipush 31, 39), (39, .iand, 40), (40, .tableswitch 1636 0 24 #[156, 229, 285, 298, 354, 410, 478, 546, 602, 670, 738, 794, 869, 925, 993, 1049, 1105, 1185, 1277, 1357, 1413, 1481, 1565, 1609, 1622], 156), (156, .aload_n 1, 157), (157, .aload_n 0, 158), (158, .iload 4, 160), (160, .iconst 1, 161), (161, .iadd, 162), (162, .iaload, 163), (163, .aload_n 0, 164), (164, .iload 4, 166), (166, .iconst 2, 167), (167, .iadd, 168), (168, .iaload, 169), (169, .aload_n 0, 170), (170, .iload 4, 172), (172, .iconst 3, 173), (173, .iadd, 174), (174, .iaload, 175), (175, .aload_n 0, 176), (176, .iload 4, 178), (178, .iconst 4, 179), (179, .iadd, 180), (180, .iaload, 181), (181, .aload_n 0, 182), (182, .iload 4, 184), (184, .iconst 5, 185), (185, .iadd, 186), (186, .iaload, 187), (187, .invokevirtual 91, 190), (190, .aload_n 2, 191), (191, .aload_n 0, 192), (192, .iload 4, 194), (194, .iconst 1, 195), (195, .iadd, 196), (196, .iaload, 197), (197, .aload_n 0, 198), (198, .iload 4, 200), (200, .iconst 2, 201), (201, .iadd, 202), (202, .iaload, 203), (203, .aload_n 0, 204), (204, .iload 4, 206), (206, .iconst 3, 207), (207, .iadd, 208), (208, .iaload, 209), (209, .aload_n 0, 210), (210, .iload 4, 212), (212, .iconst 4, 213), (213, .iadd, 214), (214, .iaload, 215), (215, .aload_n 0, 216), (216, .iload 4, 218), (218, .iconst 5, 219), (219, .iadd, 220), (220, .iaload, 221), (221, .invokevirtual 95, 224), (224, .if_icmp .eq 1636, 227), (227, .iconst 0, 228), (228, .ireturn, 229), (229, .aload_n 1, 230), (230, .aload_n 0, 231), (231, .iload 4, 233), (233, .iconst 1, 234), (234, .iadd, 235), (235, .iaload, 236), (236, .aload_n 3, 237), (237, .invokestatic 96, 240), (240, .istore 5, 242), (242, .aload_n 2, 243), (243, .aload_n 0, 244), (244, .iload 4, 246), (246, .iconst 1, 247), (247, .iadd, 248), (248, .iaload, 249), (249, .invokevirtual 101, 252), (252, .istore 6, 254), (254, .aload_n 2, 255), (255, .invokevirtual 102, 258), (258, .iload 5, 260), (260, .if_icmp .eq 265, 263), (263, .iconst 0, 264), (264, .ireturn, 265), (265, .iload 5, 267), (267, .ifCond .ne 282, 270), (270, .aload_n 3, 271), (271, .iconst 0, 272), (272, .laload, 273), (273, .iload 6, 275), (275, .i2l, 276), (276, .lcmp, 277), (277, .ifCond .eq 282, 280), (280, .iconst 0, 281), (281, .ireturn, 282), (282, .goto 1636, 285), (285, .aload_n 1, 286), (286, .invokevirtual 105, 289), (289, .aload_n 2, 290), (290, .invokevirtual 108, 293), (293, .if_icmp .eq 1636, 296), (296, .iconst 0, 297), (297, .ireturn, 298), (298, .aload_n 1, 299), (299, .aload_n 0, 300), (300, .iload 4, 302), (302, .iconst 1, 303), (303, .iadd, 304), (304, .iaload, 305), (305, .aload_n 3, 306), (306, .invokestatic 109, 309), (309, .istore 5, 311), (311, .aload_n 2, 312), (312, .aload_n 0, 313), (313, .iload 4, 315), (315, .iconst 1, 316), (316, .iadd, 317), (317, .iaload, 318), (318, .invokevirtual 111, 321), (321, .istore 6, 323), (323, .aload_n 2, 324), (324, .invokevirtual 102, 327), (327, .iload 5, 329), (329, .if_icmp .eq 334, 332), (332, .iconst 0, 333), (333, .ireturn, 334), (334, .iload 5, 336), (336, .ifCond .ne 351, 339), (339, .aload_n 3, 340), (340, .iconst 0, 341), (341, .laload, 342), (342, .iload 6, 344), (344, .i2l, 345), (345, .lcmp, 346), (346, .ifCond .eq 351, 349), (349, .iconst 0, 350), (350, .ireturn, 351), (351, .goto 1636, 354), (354, .aload_n 1, 355), (355, .aload_n 0, 356), (356, .iload 4, 358), (358, .iconst 1, 359), (359, .iadd, 360), (360, .iaload, 361), (361, .aload_n 3, 362), (362, .invokestatic 112, 365), (365, .istore 5, 367), (367, .aload_n 2, 368), (368, .aload_n 0, 369), (369, .iload 4, 371), (371, .iconst 1, 372), (372, .iadd, 373), (373, .iaload, 374), (374, .invokevirtual 114, 377), (377, .istore 6, 379), (379, .aload_n 2, 380), (380, .invokevirtual 102, 383), (383, .iload 5, 385), (385, .if_icmp .eq 390, 388), (388, .iconst 0, 389), (389, .ireturn, 390), (390, .iload 5, 392), (392, .ifCond .ne 407, 395), (395, .aload_n 3, 396), (396, .iconst 0, 397), (397, .laload, 398), (398, .iload 6, 400), (400, .i2l, 401), (401, .lcmp, 402), (402, .ifCond .eq 407, 405), (405, .iconst 0, 406), (406, .ireturn, 407), (407, .goto 1636, 410), (410, .aload_n 1, 411), (411, .aload_n 0, 412), (412, .iload 4, 414), (414, .iconst 1, 415), (415, .iadd, 416), (416, .iaload, 417), (417, .aload_n 0, 418), (418, .iload 4, 420), (420, .iconst 2, 421), (421, .iadd, 422), (422, .iaload, 423), (423, .aload_n 3, 424), (424, .invokestatic 115, 427), (427, .istore 5, 429), (429, .aload_n 2, 430), (430, .aload_n 0, 431), (431, .iload 4, 433), (433, .iconst 1, 434), (434, .iadd, 435), (435, .iaload, 436), (436, .aload_n 0, 437), (437, .iload 4, 439), (439, .iconst 2, 440), (440, .iadd, 441), (441, .iaload, 442), (442, .invokevirtual 118, 445), (445, .istore 6, 447), (447, .aload_n 2, 448), (448, .invokevirtual 102, 451), (451, .iload 5, 453), (453, .if_icmp .eq 458, 456), (456, .iconst 0, 457), (457, .ireturn, 458), (458, .iload 5, 460), (460, .ifCond .ne 475, 463), (463, .aload_n 3, 464), (464, .iconst 0, 465), (465, .laload, 466), (466, .iload 6, 468), (468, .i2l, 469), (469, .lcmp, 470), (470, .ifCond .eq 475, 473), (473, .iconst 0, 474), (474, .ireturn, 475), (475, .goto 1636, 478), (478, .aload_n 1, 479), (479, .aload_n 0, 480), (480, .iload 4, 482), (482, .iconst 1, 483), (483, .iadd, 484), (484, .iaload, 485), (485, .aload_n 0, 486), (486, .iload 4, 488), (488, .iconst 2, 489), (489, .iadd, 490), (490, .iaload, 491), (491, .aload_n 3, 492), (492, .invokestatic 119, 495), (495, .istore 5, 497), (497, .aload_n 2, 498), (498, .aload_n 0, 499), (499, .iload 4, 501), (501, .iconst 1, 502), (502, .iadd, 503), (503, .iaload, 504), (504, .aload_n 0, 505), (505, .iload 4, 507), (507, .iconst 2, 508), (508, .iadd, 509), (509, .iaload, 510), (510, .invokevirtual 121, 513), (513, .istore 6, 515), (515, .aload_n 2, 516), (516, .invokevirtual 102, 519), (519, .iload 5, 521), (521, .if_icmp .eq 526, 524), (524, .iconst 0, 525), (525, .ireturn, 526), (526, .iload 5, 528), (528, .ifCond .ne 543, 531), (531, .aload_n 3, 532), (532, .iconst 0, 533), (533, .laload, 534), (534, .iload 6, 536), (536, .i2l, 537), (537, .lcmp, 538), (538, .ifCond .eq 543, 541), (541, .iconst 0, 542), (542, .ireturn, 543), (543, .goto 1636, 546), (546, .aload_n 1, 547), (547, .aload_n 0, 548), (548, .iload 4, 550), (550, .iconst 1, 551), (551, .iadd, 552), (552, .iaload, 553), (553, .aload_n 3, 554), (554, .invokestatic 122, 557), (557, .istore 5, 559), (559, .aload_n 2, 560), (560, .aload_n 0, 561), (561, .iload 4, 563), (563, .iconst 1, 564), (564, .iadd, 565), (565, .iaload, 566), (566, .invokevirtual 124, 569), (569, .istore 6, 571), (571, .aload_n 2, 572), (572, .invokevirtual 102, 575), (575, .iload 5, 577), (577, .if_icmp .eq 582, 580), (580, .iconst 0, 581), (581, .ireturn, 582), (582, .iload 5, 584), (584, .ifCond .ne 599, 587), (587, .aload_n 3, 588), (588, .iconst 0, 589), (589, .laload, 590), (590, .iload 6, 592), (592, .i2l, 593), (593, .lcmp, 594), (594, .ifCond .eq 599, 597), (597, .iconst 0, 598), (598, .ireturn, 599), (599, .goto 1636, 602), (602, .aload_n 1, 603), (603, .aload_n 0, 604), (604, .iload 4, 606), (606, .iconst 1, 607), (607, .iadd, 608), (608, .iaload, 609), (609, .aload_n 0, 610), (610, .iload 4, 612), (612, .iconst 2, 613), (613, .iadd, 614), (614, .iaload, 615), (615, .aload_n 3, 616), (616, .invokestatic 125, 619), (619, .istore 5, 621), (621, .aload_n 2, 622), (622, .aload_n 0, 623), (623, .iload 4, 625), (625, .iconst 1, 626), (626, .iadd, 627), (627, .iaload, 628), (628, .aload_n 0, 629), (629, .iload 4, 631), (631, .iconst 2, 632), (632, .iadd, 633), (633, .iaload, 634), (634, .invokevirtual 127, 637), (637, .istore 6, 639), (639, .aload_n 2, 640), (640, .invokevirtual 102, 643), (643, .iload 5, 645), (645, .if_icmp .eq 650, 648), (648, .iconst 0, 649), (649, .ireturn, 650), (650, .iload 5, 652), (652, .ifCond .ne 667, 655), (655, .aload_n 3, 656), (656, .iconst 0, 657), (657, .laload, 658), (658, .iload 6, 660), (660, .i2l, 661), (661, .lcmp, 662), (662, .ifCond .eq 667, 665), (665, .iconst 0, 666), (666, .ireturn, 667), (667, .goto 1636, 670), (670, .aload_n 1, 671), (671, .aload_n 0, 672), (672, .iload 4, 674), (674, .iconst 1, 675), (675, .iadd, 676), (676, .iaload, 677), (677, .aload_n 0, 678), (678, .iload 4, 680), (680, .iconst 2, 681), (681, .iadd, 682), (682, .iaload, 683), (683, .aload_n 3, 684), (684, .invokestatic 128, 687), (687, .istore 5, 689), (689, .aload_n 2, 690), (690, .aload_n 0, 691), (691, .iload 4, 693), (693, .iconst 1, 694), (694, .iadd, 695), (695, .iaload, 696), (696, .aload_n 0, 697), (697, .iload 4, 699), (699, .iconst 2, 700), (700, .iadd, 701), (701, .iaload, 702), (702, .invokevirtual 130, 705), (705, .istore 6, 707), (707, .aload_n 2, 708), (708, .invokevirtual 102, 711), (711, .iload 5, 713), (713, .if_icmp .eq 718, 716), (716, .iconst 0, 717), (717, .ireturn, 718), (718, .iload 5, 720), (720, .ifCond .ne 735, 723), (723, .aload_n 3, 724), (724, .iconst 0, 725), (725, .laload, 726), (726, .iload 6, 728), (728, .i2l, 729), (729, .lcmp, 730), (730, .ifCond .eq 735, 733), (733, .iconst 0, 734), (734, .ireturn, 735), (735, .goto 1636, 738), (738, .aload_n 1, 739), (739, .aload_n 0, 740), (740, .iload 4, 742), (742, .iconst 1, 743), (743, .iadd, 744), (744, .iaload, 745), (745, .aload_n 3, 746), (746, .invokestatic 131, 749), (749, .istore 5, 751), (751, .aload_n 2, 752), (752, .aload_n 0, 753), (753, .iload 4, 755), (755, .iconst 1, 756), (756, .iadd, 757), (757, .iaload, 758), (758, .invokevirtual 133, 761), (761, .istore 6, 763), (763, .aload_n 2, 764), (764, .invokevirtual 102, 767), (767, .iload 5, 769), (769, .if_icmp .eq 774, 772), (772, .iconst 0, 773), (773, .ireturn, 774), (774, .iload 5, 776), (776, .ifCond .ne 791, 779), (779, .aload_n 3, 780), (780, .iconst 0, 781), (781, .laload, 782), (782, .iload 6, 784), (784, .i2l, 785), (785, .lcmp, 786), (786, .ifCond .eq 791, 789), (789, .iconst 0, 790), (790, .ireturn, 791), (791, .goto 1636, 794), (794, .aload_n 1, 795), (795, .aload_n 0, 796), (796, .iload 4, 798), (798, .iconst 1, 799), (799, .iadd, 800), (800, .iaload, 801), (801, .aload_n 0, 802), (802, .iload 4, 804), (804, .iconst 2, 805), (805, .iadd, 806), (806, .iaload, 807), (807, .aload_n 3, 808), (808, .invokestatic 134, 811), (811, .istore 5, 813), (813, .aload_n 2, 814), (814, .aload_n 0, 815), (815, .iload 4, 817), (817, .iconst 1, 818), (818, .iadd, 819), (819, .iaload, 820), (820, .aload_n 0, 821), (821, .iload 4, 823), (823, .iconst 2, 824), (824, .iadd, 825), (825, .iaload, 826), (826, .invokevirtual 136, 829), (829, .istore 6, 831), (831, .aload_n 2, 832), (832, .invokevirtual 102, 835), (835, .iload 5, 837), (837, .if_icmp .eq 842, 840), (840, .iconst 0, 841), (841, .ireturn, 842), (842, .iload 5, 844), (844, .ifCond .ne 866, 847), (847, .aload_n 3, 848), (848, .iconst 0, 849), (849, .laload, 850), (850, .iload 6, 852), (852, .ifCond .eq 859, 855), (855, .lconst 1, 856), (856, .goto 860, 859), (859, .lconst 0, 860), (860, .lcmp, 861), (861, .ifCond .eq 866, 864), (864, .iconst 0, 865), (865, .ireturn, 866), (866, .goto 1636, 869), (869, .aload_n 1, 870), (870, .aload_n 0, 871), (871, .iload 4, 873), (873, .iconst 1, 874), (874, .iadd, 875), (875, .iaload, 876), (876, .aload_n 3, 877), (877, .invokestatic 137, 880), (880, .istore 5, 882), (882, .aload_n 2, 883), (883, .aload_n 0, 884), (884, .iload 4, 886), (886, .iconst 1, 887), (887, .iadd, 888), (888, .iaload, 889), (889, .invokevirtual 139, 892), (892, .istore 6, 894), (894, .aload_n 2, 895), (895, .invokevirtual 102, 898), (898, .iload 5, 900), (900, .if_icmp .eq 905, 903), (903, .iconst 0, 904), (904, .ireturn, 905), (905, .iload 5, 907), (907, .ifCond .ne 922, 910), (910, .aload_n 3, 911), (911, .iconst 0, 912), (912, .laload, 913), (913, .iload 6, 915), (915, .i2l, 916), (916, .lcmp, 917), (917, .ifCond .eq 922, 920), (920, .iconst 0, 921), (921, .ireturn, 922), (922, .goto 1636, 925), (925, .aload_n 1, 926), (926, .aload_n 0, 927), (927, .iload 4, 929), (929, .iconst 1, 930), (930, .iadd, 931), (931, .iaload, 932), (932, .aload_n 0, 933), (933, .iload 4, 935), (935, .iconst 2, 936), (936, .iadd, 937), (937, .iaload, 938), (938, .aload_n 3, 939), (939, .invokestatic 140, 942), (942, .istore 5, 944), (944, .aload_n 2, 945), (945, .aload_n 0, 946), (946, .iload 4, 948), (948, .iconst 1, 949), (949, .iadd, 950), (950, .iaload, 951), (951, .aload_n 0, 952), (952, .iload 4, 954), (954, .iconst 2, 955), (955, .iadd, 956), (956, .iaload, 957), (957, .invokevirtual 142, 960), (960, .istore 6, 962), (962, .aload_n 2, 963), (963, .invokevirtual 102, 966), (966, .iload 5, 968), (968, .if_icmp .eq 973, 971), (971, .iconst 0, 972), (972, .ireturn, 973), (973, .iload 5, 975), (975, .ifCond .ne 990, 978), (978, .aload_n 3, 979), (979, .iconst 0, 980), (980, .laload, 981), (981, .iload 6, 983), (983, .i2l, 984), (984, .lcmp, 985), (985, .ifCond .eq 990, 988), (988, .iconst 0, 989), (989, .ireturn, 990), (990, .goto 1636, 993), (993, .aload_n 1, 994), (994, .aload_n 0, 995), (995, .iload 4, 997), (997, .iconst 1, 998), (998, .iadd, 999), (999, .iaload, 1000), (1000, .aload_n 3, 1001), (1001, .invokestatic 143, 1004), (1004, .istore 5, 1006), (1006, .aload_n 2, 1007), (1007, .aload_n 0, 1008), (1008, .iload 4, 1010), (1010, .iconst 1, 1011), (1011, .iadd, 1012), (1012, .iaload, 1013), (1013, .invokevirtual 145, 1016), (1016, .istore 6, 1018), (1018, .aload_n 2, 1019), (1019, .invokevirtual 102, 1022), (1022, .iload 5, 1024), (1024, .if_icmp .eq 1029, 1027), (1027, .iconst 0, 1028), (1028, .ireturn, 1029), (1029, .iload 5, 1031), (1031, .ifCond .ne 1046, 1034), (1034, .aload_n 3, 1035), (1035, .iconst 0, 1036), (1036, .laload, 1037), (1037, .iload 6, 1039), (1039, .i2l, 1040), (1040, .lcmp, 1041), (1041, .ifCond .eq 1046, 1044), (1044, .iconst 0, 1045), (1045, .ireturn, 1046), (1046, .goto 1636, 1049), (1049, .aload_n 1, 1050), (1050, .aload_n 0, 1051), (1051, .iload 4, 1053), (1053, .iconst 1, 1054), (1054, .iadd, 1055), (1055, .iaload, 1056), (1056, .aload_n 3, 1057), (1057, .invokestatic 146, 1060), (1060, .istore 5, 1062), (1062, .aload_n 2, 1063), (1063, .aload_n 0, 1064), (1064, .iload 4, 1066), (1066, .iconst 1, 1067), (1067, .iadd, 1068), (1068, .iaload, 1069), (1069, .invokevirtual 148, 1072), (1072, .istore 6, 1074), (1074, .aload_n 2, 1075), (1075, .invokevirtual 102, 1078), (1078, .iload 5, 1080), (1080, .if_icmp .eq 1085, 1083), (1083, .iconst 0, 1084), (1084, .ireturn, 1085), (1085, .iload 5, 1087), (1087, .ifCond .ne 1102, 1090), (1090, .aload_n 3, 1091), (1091, .iconst 0, 1092), (1092, .laload, 1093), (1093, .iload 6, 1095), (1095, .i2l, 1096), (1096, .lcmp, 1097), (1097, .ifCond .eq 1102, 1100), (1100, .iconst 0, 1101), (1101, .ireturn, 1102), (1102, .goto 1636, 1105), (1105, .aload_n 1, 1106), (1106, .aload_n 0, 1107), (1107, .iload 4, 1109), (1109, .iconst 1, 1110), (1110, .iadd, 1111), (1111, .iaload, 1112), (1112, .aload_n 0, 1113), (1113, .iload 4, 1115), (1115, .iconst 2, 1116), (1116, .iadd, 1117), (1117, .iaload, 1118), (1118, .aload_n 0, 1119), (1119, .iload 4, 1121), (1121, .iconst 3, 1122), (1122, .iadd, 1123), (1123, .iaload, 1124), (1124, .aload_n 3, 1125), (1125, .invokestatic 149, 1128), (1128, .istore 5, 1130), (1130, .aload_n 2, 1131), (1131, .aload_n 0, 1132), (1132, .iload 4, 1134), (1134, .iconst 1, 1135), (1135, .iadd, 1136), (1136, .iaload, 1137), (1137, .aload_n 0, 1138), (1138, .iload 4, 1140), (1140, .iconst 2, 1141), (1141, .iadd, 1142), (1142, .iaload, 1143), (1143, .aload_n 0, 1144), (1144, .iload 4, 1146), (1146, .iconst 3, 1147), (1147, .iadd, 1148), (1148, .iaload, 1149), (1149, .invokevirtual 152, 1152), (1152, .istore 6, 1154), (1154, .aload_n 2, 1155), (1155, .invokevirtual 102, 1158), (1158, .iload 5, 1160), (1160, .if_icmp .eq 1165, 1163), (1163, .iconst 0, 1164), (1164, .ireturn, 1165), (1165, .iload 5, 1167), (1167, .ifCond .ne 1182, 1170), (1170, .aload_n 3, 1171), (1171, .iconst 0, 1172), (1172, .laload, 1173), (1173, .iload 6, 1175), (1175, .i2l, 1176), (1176, .lcmp, 1177), (1177, .ifCond .eq 1182, 1180), (1180, .iconst 0, 1181), (1181, .ireturn, 1182), (1182, .goto 1636, 1185), (1185, .aload_n 1, 1186), (1186, .aload_n 0, 1187), (1187, .iload 4, 1189), (1189, .iconst 1, 1190), (1190, .iadd, 1191), (1191, .iaload, 1192), (1192, .aload_n 0, 1193), (1193, .iload 4, 1195), (1195, .iconst 2, 1196), (1196, .iadd, 1197), (1197, .iaload, 1198), (1198, .aload_n 0, 1199), (1199, .iload 4, 1201), (1201, .iconst 3, 1202), (1202, .iadd, 1203), (1203, .iaload, 1204), (1204, .aload_n 0, 1205), (1205, .iload 4, 1207), (1207, .iconst 4, 1208), (1208, .iadd, 1209), (1209, .iaload, 1210), (1210, .aload_n 3, 1211), (1211, .invokestatic 153, 1214), (1214, .istore 5, 1216), (1216, .aload_n 2, 1217), (1217, .aload_n 0, 1218), (1218, .iload 4, 1220), (1220, .iconst 1, 1221), (1221, .iadd, 1222), (1222, .iaload, 1223), (1223, .aload_n 0, 1224), (1224, .iload 4, 1226), (1226, .iconst 2, 1227), (1227, .iadd, 1228), (1228, .iaload, 1229), (1229, .aload_n 0, 1230), (1230, .iload 4, 1232), (1232, .iconst 3, 1233), (1233, .iadd, 1234), (1234, .iaload, 1235), (1235, .aload_n 0, 1236), (1236, .iload 4, 1238), (1238, .iconst 4, 1239), (1239, .iadd, 1240), (1240, .iaload, 1241), (1241, .invokevirtual 156, 1244), (1244, .istore 6, 1246), (1246, .aload_n 2, 1247), (1247, .invokevirtual 102, 1250), (1250, .iload 5, 1252), (1252, .if_icmp .eq 1257, 1255), (1255, .iconst 0, 1256), (1256, .ireturn, 1257), (1257, .iload 5, 1259), (1259, .ifCond .ne 1274, 1262), (1262, .aload_n 3, 1263), (1263, .iconst 0, 1264), (1264, .laload, 1265), (1265, .iload 6, 1267), (1267, .i2l, 1268), (1268, .lcmp, 1269), (1269, .ifCond .eq 1274, 1272), (1272, .iconst 0, 1273), (1273, .ireturn, 1274), (1274, .goto 1636, 1277), (1277, .aload_n 1, 1278), (1278, .aload_n 0, 1279), (1279, .iload 4, 1281), (1281, .iconst 1, 1282), (1282, .iadd, 1283), (1283, .iaload, 1284), (1284, .aload_n 0, 1285), (1285, .iload 4, 1287), (1287, .iconst 2, 1288), (1288, .iadd, 1289), (1289, .iaload, 1290), (1290, .aload_n 0, 1291), (1291, .iload 4, 1293), (1293, .iconst 3, 1294), (1294, .iadd, 1295), (1295, .iaload, 1296), (1296, .aload_n 3, 1297), (1297, .invokestatic 157, 1300), (1300, .istore 5, 1302), (1302, .aload_n 2, 1303), (1303, .aload_n 0, 1304), (1304, .iload 4, 1306), (1306, .iconst 1, 1307), (1307, .iadd, 1308), (1308, .iaload, 1309), (1309, .aload_n 0, 1310), (1310, .iload 4, 1312), (1312, .iconst 2, 1313), (1313, .iadd, 1314), (1314, .iaload, 1315), (1315, .aload_n 0, 1316), (1316, .iload 4, 1318), (1318, .iconst 3, 1319), (1319, .iadd, 1320), (1320, .iaload, 1321), (1321, .invokevirtual 159, 1324), (1324, .istore 6, 1326), (1326, .aload_n 2, 1327), (1327, .invokevirtual 102, 1330), (1330, .iload 5, 1332), (1332, .if_icmp .eq 1337, 1335), (1335, .iconst 0, 1336), (1336, .ireturn, 1337), (1337, .iload 5, 1339), (1339, .ifCond .ne 1354, 1342), (1342, .aload_n 3, 1343), (1343, .iconst 0, 1344), (1344, .laload, 1345), (1345, .iload 6, 1347), (1347, .i2l, 1348), (1348, .lcmp, 1349), (1349, .ifCond .eq 1354, 1352), (1352, .iconst 0, 1353), (1353, .ireturn, 1354), (1354, .goto 1636, 1357), (1357, .aload_n 1, 1358), (1358, .aload_n 0, 1359), (1359, .iload 4, 1361), (1361, .iconst 1, 1362), (1362, .iadd, 1363), (1363, .iaload, 1364), (1364, .aload_n 3, 1365), (1365, .invokestatic 160, 1368), (1368, .istore 5, 1370), (1370, .aload_n 2, 1371), (1371, .aload_n 0, 1372), (1372, .iload 4, 1374), (1374, .iconst 1, 1375), (1375, .iadd, 1376), (1376, .iaload, 1377), (1377, .invokevirtual 162, 1380), (1380, .istore 6, 1382), (1382, .aload_n 2, 1383), (1383, .invokevirtual 102, 1386), (1386, .iload 5, 1388), (1388, .if_icmp .eq 1393, 1391), (1391, .iconst 0, 1392), (1392, .ireturn, 1393), (1393, .iload 5, 1395), (1395, .ifCond .ne 1410, 1398), (1398, .aload_n 3, 1399), (1399, .iconst 0, 1400), (1400, .laload, 1401), (1401, .iload 6, 1403), (1403, .i2l, 1404), (1404, .lcmp, 1405), (1405, .ifCond .eq 1410, 1408), (1408, .iconst 0, 1409), (1409, .ireturn, 1410), (1410, .goto 1636, 1413), (1413, .aload_n 1, 1414), (1414, .aload_n 0, 1415), (1415, .iload 4, 1417), (1417, .iconst 1, 1418), (1418, .iadd, 1419), (1419, .iaload, 1420), (1420, .aload_n 0, 1421), (1421, .iload 4, 1423), (1423, .iconst 2, 1424), (1424, .iadd, 1425), (1425, .iaload, 1426), (1426, .aload_n 3, 1427), (1427, .invokestatic 163, 1430), (1430, .istore 5, 1432), (1432, .aload_n 2, 1433), (1433, .aload_n 0, 1434), (1434, .iload 4, 1436), (1436, .iconst 1, 1437), (1437, .iadd, 1438), (1438, .iaload, 1439), (1439, .aload_n 0, 1440), (1440, .iload 4, 1442), (1442, .iconst 2, 1443), (1443, .iadd, 1444), (1444, .iaload, 1445), (1445, .invokevirtual 165, 1448), (1448, .istore 6, 1450), (1450, .aload_n 2, 1451), (1451, .invokevirtual 102, 1454), (1454, .iload 5, 1456), (1456, .if_icmp .eq 1461, 1459), (1459, .iconst 0, 1460), (1460, .ireturn, 1461), (1461, .iload 5, 1463), (1463, .ifCond .ne 1478, 1466), (1466, .aload_n 3, 1467), (1467, .iconst 0, 1468), (1468, .laload, 1469), (1469, .iload 6, 1471), (1471, .i2l, 1472), (1472, .lcmp, 1473), (1473, .ifCond .eq 1478, 1476), (1476, .iconst 0, 1477), (1477, .ireturn, 1478), (1478, .goto 1636, 1481), (1481, .aload_n 1, 1482), (1482, .aload_n 0, 1483), (1483, .iload 4, 1485), (1485, .iconst 1, 1486), (1486, .iadd, 1487), (1487, .iaload, 1488), (1488, .aload_n 0, 1489), (1489, .iload 4, 1491), (1491, .iconst 2, 1492), (1492, .iadd, 1493), (1493, .iaload, 1494), (1494, .ifCond .eq 1501, 1497), (1497, .iconst 1, 1498), (1498, .goto 1502, 1501), (1501, .iconst 0, 1502), (1502, .aload_n 3, 1503), (1503, .invokestatic 166, 1506), (1506, .istore 5, 1508), (1508, .aload_n 2, 1509), (1509, .aload_n 0, 1510), (1510, .iload 4, 1512), (1512, .iconst 1, 1513), (1513, .iadd, 1514), (1514, .iaload, 1515), (1515, .aload_n 0, 1516), (1516, .iload 4, 1518), (1518, .iconst 2, 1519), (1519, .iadd, 1520), (1520, .iaload, 1521), (1521, .ifCond .eq 1528, 1524), (1524, .iconst 1, 1525), (1525, .goto 1529, 1528), (1528, .iconst 0, 1529), (1529, .invokevirtual 169, 1532), (1532, .istore 6, 1534), (1534, .aload_n 2, 1535), (1535, .invokevirtual 102, 1538), (1538, .iload 5, 1540), (1540, .if_icmp .eq 1545, 1543), (1543, .iconst 0, 1544), (1544, .ireturn, 1545), (1545, .iload 5, 1547), (1547, .ifCond .ne 1562, 1550), (1550, .aload_n 3, 1551), (1551, .iconst 0, 1552), (1552, .laload, 1553), (1553, .iload 6, 1555), (1555, .i2l, 1556), (1556, .lcmp, 1557), (1557, .ifCond .eq 1562, 1560), (1560, .iconst 0, 1561), (1561, .ireturn, 1562), (1562, .goto 1636, 1565), (1565, .aload_n 1, 1566), (1566, .aload_n 3, 1567), (1567, .invokestatic 170, 1570), (1570, .istore 5, 1572), (1572, .aload_n 2, 1573), (1573, .invokevirtual 173, 1576), (1576, .istore 6, 1578), (1578, .aload_n 2, 1579), (1579, .invokevirtual 102, 1582), (1582, .iload 5, 1584), (1584, .if_icmp .eq 1589, 1587), (1587, .iconst 0, 1588), (1588, .ireturn, 1589), (1589, .iload 5, 1591), (1591, .ifCond .ne 1606, 1594), (1594, .aload_n 3, 1595), (1595, .iconst 0, 1596), (1596, .laload, 1597), (1597, .iload 6, 1599), (1599, .i2l, 1600), (1600, .lcmp, 1601), (1601, .ifCond .eq 1606, 1604), (1604, .iconst 0, 1605), (1605, .ireturn, 1606), (1606, .goto 1636, 1609), (1609, .aload_n 1, 1610), (1610, .invokevirtual 174, 1613), (1613, .aload_n 2, 1614), (1614, .invokevirtual 177, 1617), (1617, .if_icmp .eq 1636, 1620), (1620, .iconst 0, 1621), (1621, .ireturn, 1622), (1622, .aload_n 1, 1623), (1623, .invokevirtual 178, 1626), (1626, .aload_n 2, 1627), (1627, .invokevirtual 182, 1630), (1630, .lcmp, 1631), (1631, .ifCond .eq 1636, 1634), (1634, .iconst 0, 1635), (1635, .ireturn, 1636), (1636, .iinc 4 6, 1639), (1639, .goto 23, 1642), (1642, .iconst 1, 1643), (1643, .ireturn, 1644)]
def kL : List (List (Nat × Instr × Nat)) := [k_0, k_1, k_2, k_3, k_4, k_5, k_6, k_7, k_8, k_9, k_10, k_11, k_12, k_13, k_14, k_15, k_16, k_17, k_18, k_19, k_20, k_21, k_22, k_23, k_24, k_25, k_26, k_27, k_28, k_29, k_30, k_31, k_32, k_33, k_34, k_35, k_36, k_37, k_38, k_39, k_40, k_41, k_42, k_43, k_44, k_45, k_46, k_47, k_48, k_49, k_50, k_51, k_52, k_53, k_54, k_55, k_56, k_57, k_58, k_59, k_60, k_61, k_62, k_63, k_64, k_65, k_66, k_67, k_68, k_69, k_70, k_71, k_72, k_73, k_74, k_75, k_76, k_77, k_78, k_79, k_80, k_81, k_82, k_83, k_84, k_85, k_86, k_87, k_88, k_89, k_90, k_91, k_92, k_93, k_94, k_95, k_96, k_97, k_98, k_99, k_100, k_101, k_102, k_103, k_104, k_105, k_106, k_107, k_108, k_109, k_110, k_111, k_112, k_113, k_114, k_115, k_116, k_117, k_118, k_119, k_120, k_121, k_122, k_123, k_124, k_125, k_126, k_127, k_128, k_129, k_130, k_131, k_132, k_133, k_134, k_135, k_136, k_137, k_138, k_139, k_140, k_141, k_142, k_143, k_144, k_145, k_146, k_147, k_148, k_149, k_150, k_151, k_152, k_153, k_154, k_155, k_156, k_157, k_158, k_159, k_160, k_161, k_162, k_163, k_164, k_165, k_166, k_167, k_168, k_169, k_170, k_171, k_172, k_173, k_174, k_175, k_176, k_177, k_178, k_179, k_180, k_181, k_182, k_183, k_184, k_185, k_186, k_187, k_188, k_189, k_190, k_191, k_192, k_193, k_194, k_195, k_196, k_197, k_198, k_199, k_200, k_201, k_202, k_203, k_204, k_205, k_206, k_207, k_208, k_209, k_210, k_211, k_212, k_213, k_214, k_215, k_216, k_217, k_218, k_219, k_220, k_221, k_222, k_223, k_224, k_225, k_226, k_227, k_228, k_229, k_230, k_231, k_232, k_233, k_234, k_235, k_236, k_237, k_238, k_239, k_240, k_241, k_242, k_243, k_244, k_245, k_246, k_247, k_248, k_249, k_250, k_251]
abbrev mX0_init : Nat := 0
abbrev mX0_mountVolume : Nat := 1
abbrev mX0_bindPart : Nat := 2
abbrev mX0_moveMount : Nat := 3
abbrev mX0_refusalToMove : Nat := 4
abbrev mX0_isOrIsUnder : Nat := 5
abbrev mX0_copiesFor : Nat := 6
abbrev mX0_put : Nat := 7
abbrev mX0_nameCopyGroups : Nat := 8
abbrev mX0_copyGroupOf : Nat := 9
abbrev mX0_copyOnto : Nat := 10
abbrev mX0_removeMount : Nat := 11
abbrev mX0_removeFrom : Nat := 12
abbrev mX0_makeKind : Nat := 13
abbrev mX0_isInOtherMount : Nat := 14
abbrev mX0_duplicateSpace : Nat := 15
abbrev mX0_duplicateMount : Nat := 16
abbrev mX0_removeLastSpace : Nat := 17
abbrev mX1_init : Nat := 18
abbrev mX1_gather : Nat := 19
abbrev mX1_reachFrom : Nat := 20
abbrev mX1_note : Nat := 21
abbrev mX1_nextGroup : Nat := 22
abbrev mX2_init : Nat := 23
abbrev mX2_hasRoom : Nat := 24
abbrev mX2_putWord : Nat := 25
abbrev mX2_open : Nat := 26
abbrev mX2_advance : Nat := 27
abbrev mX2_isLetter : Nat := 28
abbrev mX2_fail : Nat := 29
abbrev mX2_takeEnd : Nat := 30
abbrev mX2_takeSign : Nat := 31
abbrev mX2_takeWord : Nat := 32
abbrev mX2_isWord : Nat := 33
abbrev mX2_nameCode : Nat := 34
abbrev mX3_init : Nat := 35
abbrev mX3_begin : Nat := 36
abbrev mX3_add : Nat := 37
abbrev mX3_remove : Nat := 38
abbrev mX3_copyRow : Nat := 39
abbrev mX3_newGroup : Nat := 40
abbrev mX3_rowOf : Nat := 41
abbrev mX3_rowOn : Nat := 42
abbrev mX3_rowUnder : Nat := 43
abbrev mX3_hasMountOnIt : Nat := 44
abbrev mX3_rootRow : Nat := 45
abbrev mX3_holds : Nat := 46
abbrev mX3_countOf : Nat := 47
abbrev mX3_timesFilled : Nat := 48
abbrev mX3_fact : Nat := 49
abbrev mX3_takeOver : Nat := 50
abbrev mX4_init : Nat := 51
abbrev mX4_keep : Nat := 52
abbrev mX4_restore : Nat := 53
abbrev mX5_init : Nat := 54
abbrev mX5_write : Nat := 55
abbrev mX5_writeWayTo : Nat := 56
abbrev mX5_writeName : Nat := 57
abbrev mX5_writeByte : Nat := 58
abbrev mX6_init : Nat := 59
abbrev mX6_readHead : Nat := 60
abbrev mX6_readVolumes : Nat := 61
abbrev mX6_readVolume : Nat := 62
abbrev mX6_readInside : Nat := 63
abbrev mX6_readDirectory : Nat := 64
abbrev mX6_readRoot : Nat := 65
abbrev mX6_readVolumeName : Nat := 66
abbrev mX6_readStatements : Nat := 67
abbrev mX6_readMount : Nat := 68
abbrev mX6_readBind : Nat := 69
abbrev mX6_takeAnswer : Nat := 70
abbrev mX6_readMake : Nat := 71
abbrev mX6_kindOfWord : Nat := 72
abbrev mX7_init : Nat := 73
abbrev mX7_survey : Nat := 74
abbrev mX7_note : Nat := 75
abbrev mX7_lookInto : Nat := 76
abbrev mX7_shows : Nat := 77
abbrev mX8_init : Nat := 78
abbrev mX8_isFull : Nat := 79
abbrev mX8_add : Nat := 80
abbrev mX8_addDirectory : Nat := 81
abbrev mX8_sizeOf : Nat := 82
abbrev mX8_outerOf : Nat := 83
abbrev mX8_nameOf : Nat := 84
abbrev mX8_volumeNamed : Nat := 85
abbrev mX8_directoryNamed : Nat := 86
abbrev mX8_takeOver : Nat := 87
abbrev mX9_init : Nat := 88
abbrev mX9_arriveAt : Nat := 89
abbrev mX9_arriveInSpace : Nat := 90
abbrev mX9_follow : Nat := 91
abbrev mX9_takeStep : Nat := 92
abbrev mX10_init : Nat := 93
abbrev mX10_append : Nat := 94
abbrev mX10_load : Nat := 95
abbrev mX10_checkLength : Nat := 96
abbrev mX10_errorOffset : Nat := 97
abbrev mX10_count : Nat := 98
abbrev mX10_directories : Nat := 99
abbrev mX10_outer : Nat := 100
abbrev mX10_checkVolume : Nat := 101
abbrev mX10_told : Nat := 102
abbrev mX10_rowOfMount : Nat := 103
abbrev mX10_rowWithPlace : Nat := 104
abbrev mX10_mountAt : Nat := 105
abbrev mX10_mountOn : Nat := 106
abbrev mX10_look : Nat := 107
abbrev mX10_checkSpace : Nat := 108
abbrev mX10_seen : Nat := 109
abbrev mX10_isSeen : Nat := 110
abbrev mX10_followers : Nat := 111
abbrev mX10_wouldMake : Nat := 112
abbrev mX10_path : Nat := 113
abbrev mX10_pathByte : Nat := 114
abbrev mX10_mount : Nat := 115
abbrev mX10_bind : Nat := 116
abbrev mX10_move : Nat := 117
abbrev mX10_unmount : Nat := 118
abbrev mX10_make : Nat := 119
abbrev mX10_copySpace : Nat := 120
abbrev mX10_dropSpace : Nat := 121
abbrev mX10_undo : Nat := 122
abbrev mX10_checksum : Nat := 123
abbrev mX10_sumOfVolumes : Nat := 124
abbrev mX10_sumOfMount : Nat := 125
abbrev mX11_init : Nat := 126
abbrev mX11_thrown : Nat := 127
abbrev mX11_isIn : Nat := 128
abbrev mX11_get : Nat := 129
abbrev mX11_put : Nat := 130
abbrev mX11_add : Nat := 131
abbrev mX11_copies : Nat := 132
abbrev mX11_change : Nat := 133
abbrev mX11_right : Nat := 134
abbrev mX11_volumeAt : Nat := 135
abbrev mX11_directoryAt : Nat := 136
abbrev mX11_mountCell : Nat := 137
abbrev mX11_of : Nat := 138
abbrev mX11_dirsOf : Nat := 139
abbrev mX11_outerOf : Nat := 140
abbrev mX11_firstDirectory : Nat := 141
abbrev mX11_begins : Nat := 142
abbrev mX11_makes : Nat := 143
abbrev mX11_find : Nat := 144
abbrev mX11_isBelow : Nat := 145
abbrev mX11_hasDirectory : Nat := 146
abbrev mX11_onPlace : Nat := 147
abbrev mX11_isBusy : Nat := 148
abbrev mX11_isUnder : Nat := 149
abbrev mX11_remove : Nat := 150
abbrev mX11_isFollowing : Nat := 151
abbrev mX11_findFollowers : Nat := 152
abbrev mX11_isCopied : Nat := 153
abbrev mX11_copiesAt : Nat := 154
abbrev mX11_newGroup : Nat := 155
abbrev mX11_nextOld : Nat := 156
abbrev mX11_laysGroups : Nat := 157
abbrev mX11_freshOf : Nat := 158
abbrev mX11_copyOn : Nat := 159
abbrev mX11_spreads : Nat := 160
abbrev mX11_stands : Nat := 161
abbrev mX11_mounts : Nat := 162
abbrev mX11_binds : Nat := 163
abbrev mX11_refusal : Nat := 164
abbrev mX11_moves : Nat := 165
abbrev mX11_isRemoved : Nat := 166
abbrev mX11_unmounts : Nat := 167
abbrev mX11_groupMany : Nat := 168
abbrev mX11_makesKind : Nat := 169
abbrev mX11_countIn : Nat := 170
abbrev mX11_copyOf : Nat := 171
abbrev mX11_copiesSpace : Nat := 172
abbrev mX11_down : Nat := 173
abbrev mX11_fromRoot : Nat := 174
abbrev mX11_append : Nat := 175
abbrev mX11_fails : Nat := 176
abbrev mX11_sees : Nat := 177
abbrev mX11_isLetterOf : Nat := 178
abbrev mX11_takes : Nat := 179
abbrev mX11_wants : Nat := 180
abbrev mX11_name : Nat := 181
abbrev mX11_isNameAt : Nat := 182
abbrev mX11_nameInto : Nat := 183
abbrev mX11_volumeNamed : Nat := 184
abbrev mX11_directoryNamed : Nat := 185
abbrev mX11_directory : Nat := 186
abbrev mX11_inside : Nat := 187
abbrev mX11_volume : Nat := 188
abbrev mX11_knownVolume : Nat := 189
abbrev mX11_goesTo : Nat := 190
abbrev mX11_path0 : Nat := 191
abbrev mX11_statement : Nat := 192
abbrev mX11_ends : Nat := 193
abbrev mX11_texts : Nat := 194
abbrev mX11_load : Nat := 195
abbrev mX11_errorOffset : Nat := 196
abbrev mX11_countOf : Nat := 197
abbrev mX11_counted : Nat := 198
abbrev mX11_count : Nat := 199
abbrev mX11_noVolume : Nat := 200
abbrev mX11_directories : Nat := 201
abbrev mX11_outer : Nat := 202
abbrev mX11_known : Nat := 203
abbrev mX11_noPlace : Nat := 204
abbrev mX11_told : Nat := 205
abbrev mX11_mountAt : Nat := 206
abbrev mX11_mountOn : Nat := 207
abbrev mX11_look : Nat := 208
abbrev mX11_meets : Nat := 209
abbrev mX11_meetsInside : Nat := 210
abbrev mX11_look0 : Nat := 211
abbrev mX11_seen : Nat := 212
abbrev mX11_isSeen : Nat := 213
abbrev mX11_followers : Nat := 214
abbrev mX11_wouldMake : Nat := 215
abbrev mX11_writesName : Nat := 216
abbrev mX11_writesDown : Nat := 217
abbrev mX11_path : Nat := 218
abbrev mX11_pathByte : Nat := 219
abbrev mX11_mount : Nat := 220
abbrev mX11_bind : Nat := 221
abbrev mX11_move : Nat := 222
abbrev mX11_unmount : Nat := 223
abbrev mX11_make : Nat := 224
abbrev mX11_copySpace : Nat := 225
abbrev mX11_dropSpace : Nat := 226
abbrev mX11_undo : Nat := 227
abbrev mX11_adds : Nat := 228
abbrev mX11_checksum : Nat := 229
abbrev mL_load : Nat := 230
abbrev mL_count : Nat := 231
abbrev mL_directories : Nat := 232
abbrev mL_outer : Nat := 233
abbrev mL_told : Nat := 234
abbrev mL_mountAt : Nat := 235
abbrev mL_mountOn : Nat := 236
abbrev mL_look : Nat := 237
abbrev mL_seen : Nat := 238
abbrev mL_isSeen : Nat := 239
abbrev mL_followers : Nat := 240
abbrev mL_wouldMake : Nat := 241
abbrev mL_path : Nat := 242
abbrev mL_pathByte : Nat := 243
abbrev mL_mount : Nat := 244
abbrev mL_bind : Nat := 245
abbrev mL_move : Nat := 246
abbrev mL_unmount : Nat := 247
abbrev mL_make : Nat := 248
abbrev mL_copySpace : Nat := 249
abbrev mL_dropSpace : Nat := 250
abbrev mL_law : Nat := 251
end
section
/-! words for the tables of part 03 -/
def fnd {α : Type} : List (Nat × α) → Nat → Option α
  | [], _ => none
  | (k, v) :: r, n => bif Nat.beq k n then some v else fnd r n
def mcx (y : Nat) : Nat := mCx.getD y 99
def mkd (y : Nat) : Nat := mKd.getD y 9
def mna (y : Nat) : Nat := mNa.getD y 99
def mmx (y : Nat) : Nat := mMx.getD y 0
def code9 (y : Nat) : List (Nat × Instr × Nat) := kL.getD y []
def txt (i : Nat) : List Int32 := txtL.getD i []
def mByt (y : Nat) : ByteArray := mBy.getD y ⟨#[]⟩
def mRet (y : Nat) : Option FieldType := mRt.getD y none
def mHan (y : Nat) : List (Nat × Nat × Nat × Nat) := mHh.getD y []
/-- branches by their targets -/
def absI (pc : Nat) : Instr → Instr
  | .goto t => .goto (pc + t)
  | .ifnull t => .ifnull (pc + t)
  | .ifCond c t => .ifCond c (pc + t)
  | .if_icmp c t => .if_icmp c (pc + t)
  | .tableswitch d a b os => .tableswitch (pc + d) a b (os.map (fun z => (pc : Int) + z))
  | i => i
def kChk1 (b : ByteArray) (e : Nat × Instr × Nat) : Bool := match decode b e.1 with
  | .ok (i, len) => decide (absI e.1 i = e.2.1) && Nat.beq e.2.2 (e.1 + len)
  | _ => false
def kChkY (y : Nat) : Bool := (code9 y).all (kChk1 (mByt y))
end
section
/-! the codes of part 03 are what the bytes decode to -/
theorem kc_0 : kChkY 0 = true := by decide +kernel
theorem kc_1 : kChkY 1 = true := by decide +kernel
theorem kc_2 : kChkY 2 = true := by decide +kernel
theorem kc_3 : kChkY 3 = true := by decide +kernel
theorem kc_4 : kChkY 4 = true := by decide +kernel
theorem kc_5 : kChkY 5 = true := by decide +kernel
theorem kc_6 : kChkY 6 = true := by decide +kernel
theorem kc_7 : kChkY 7 = true := by decide +kernel
theorem kc_8 : kChkY 8 = true := by decide +kernel
theorem kc_9 : kChkY 9 = true := by decide +kernel
theorem kc_10 : kChkY 10 = true := by decide +kernel
theorem kc_11 : kChkY 11 = true := by decide +kernel
theorem kc_12 : kChkY 12 = true := by decide +kernel
theorem kc_13 : kChkY 13 = true := by decide +kernel
theorem kc_14 : kChkY 14 = true := by decide +kernel
theorem kc_15 : kChkY 15 = true := by decide +kernel
theorem kc_16 : kChkY 16 = true := by decide +kernel
theorem kc_17 : kChkY 17 = true := by decide +kernel
theorem kc_18 : kChkY 18 = true := by decide +kernel
theorem kc_19 : kChkY 19 = true := by decide +kernel
theorem kc_20 : kChkY 20 = true := by decide +kernel
theorem kc_21 : kChkY 21 = true := by decide +kernel
theorem kc_22 : kChkY 22 = true := by decide +kernel
theorem kc_23 : kChkY 23 = true := by decide +kernel
theorem kc_24 : kChkY 24 = true := by decide +kernel
theorem kc_25 : kChkY 25 = true := by decide +kernel
theorem kc_26 : kChkY 26 = true := by decide +kernel
theorem kc_27 : kChkY 27 = true := by decide +kernel
theorem kc_28 : kChkY 28 = true := by decide +kernel
theorem kc_29 : kChkY 29 = true := by decide +kernel
theorem kc_30 : kChkY 30 = true := by decide +kernel
theorem kc_31 : kChkY 31 = true := by decide +kernel
theorem kc_32 : kChkY 32 = true := by decide +kernel
theorem kc_33 : kChkY 33 = true := by decide +kernel
theorem kc_34 : kChkY 34 = true := by decide +kernel
theorem kc_35 : kChkY 35 = true := by decide +kernel
theorem kc_36 : kChkY 36 = true := by decide +kernel
theorem kc_37 : kChkY 37 = true := by decide +kernel
theorem kc_38 : kChkY 38 = true := by decide +kernel
theorem kc_39 : kChkY 39 = true := by decide +kernel
theorem kc_40 : kChkY 40 = true := by decide +kernel
theorem kc_41 : kChkY 41 = true := by decide +kernel
theorem kc_42 : kChkY 42 = true := by decide +kernel
theorem kc_43 : kChkY 43 = true := by decide +kernel
theorem kc_44 : kChkY 44 = true := by decide +kernel
theorem kc_45 : kChkY 45 = true := by decide +kernel
theorem kc_46 : kChkY 46 = true := by decide +kernel
theorem kc_47 : kChkY 47 = true := by decide +kernel
theorem kc_48 : kChkY 48 = true := by decide +kernel
theorem kc_49 : kChkY 49 = true := by decide +kernel
theorem kc_50 : kChkY 50 = true := by decide +kernel
theorem kc_51 : kChkY 51 = true := by decide +kernel
theorem kc_52 : kChkY 52 = true := by decide +kernel
theorem kc_53 : kChkY 53 = true := by decide +kernel
theorem kc_54 : kChkY 54 = true := by decide +kernel
theorem kc_55 : kChkY 55 = true := by decide +kernel
theorem kc_56 : kChkY 56 = true := by decide +kernel
theorem kc_57 : kChkY 57 = true := by decide +kernel
theorem kc_58 : kChkY 58 = true := by decide +kernel
theorem kc_59 : kChkY 59 = true := by decide +kernel
theorem kc_60 : kChkY 60 = true := by decide +kernel
theorem kc_61 : kChkY 61 = true := by decide +kernel
theorem kc_62 : kChkY 62 = true := by decide +kernel
theorem kc_63 : kChkY 63 = true := by decide +kernel
theorem kc_64 : kChkY 64 = true := by decide +kernel
theorem kc_65 : kChkY 65 = true := by decide +kernel
theorem kc_66 : kChkY 66 = true := by decide +kernel
theorem kc_67 : kChkY 67 = true := by decide +kernel
theorem kc_68 : kChkY 68 = true := by decide +kernel
theorem kc_69 : kChkY 69 = true := by decide +kernel
theorem kc_70 : kChkY 70 = true := by decide +kernel
theorem kc_71 : kChkY 71 = true := by decide +kernel
theorem kc_72 : kChkY 72 = true := by decide +kernel
theorem kc_73 : kChkY 73 = true := by decide +kernel
theorem kc_74 : kChkY 74 = true := by decide +kernel
theorem kc_75 : kChkY 75 = true := by decide +kernel
theorem kc_76 : kChkY 76 = true := by decide +kernel
theorem kc_77 : kChkY 77 = true := by decide +kernel
theorem kc_78 : kChkY 78 = true := by decide +kernel
theorem kc_79 : kChkY 79 = true := by decide +kernel
theorem kc_80 : kChkY 80 = true := by decide +kernel
theorem kc_81 : kChkY 81 = true := by decide +kernel
theorem kc_82 : kChkY 82 = true := by decide +kernel
theorem kc_83 : kChkY 83 = true := by decide +kernel
theorem kc_84 : kChkY 84 = true := by decide +kernel
theorem kc_85 : kChkY 85 = true := by decide +kernel
theorem kc_86 : kChkY 86 = true := by decide +kernel
theorem kc_87 : kChkY 87 = true := by decide +kernel
theorem kc_88 : kChkY 88 = true := by decide +kernel
theorem kc_89 : kChkY 89 = true := by decide +kernel
theorem kc_90 : kChkY 90 = true := by decide +kernel
theorem kc_91 : kChkY 91 = true := by decide +kernel
theorem kc_92 : kChkY 92 = true := by decide +kernel
theorem kc_93 : kChkY 93 = true := by decide +kernel
theorem kc_94 : kChkY 94 = true := by decide +kernel
theorem kc_95 : kChkY 95 = true := by decide +kernel
theorem kc_96 : kChkY 96 = true := by decide +kernel
theorem kc_97 : kChkY 97 = true := by decide +kernel
theorem kc_98 : kChkY 98 = true := by decide +kernel
theorem kc_99 : kChkY 99 = true := by decide +kernel
theorem kc_100 : kChkY 100 = true := by decide +kernel
theorem kc_101 : kChkY 101 = true := by decide +kernel
theorem kc_102 : kChkY 102 = true := by decide +kernel
theorem kc_103 : kChkY 103 = true := by decide +kernel
theorem kc_104 : kChkY 104 = true := by decide +kernel
theorem kc_105 : kChkY 105 = true := by decide +kernel
theorem kc_106 : kChkY 106 = true := by decide +kernel
theorem kc_107 : kChkY 107 = true := by decide +kernel
theorem kc_108 : kChkY 108 = true := by decide +kernel
theorem kc_109 : kChkY 109 = true := by decide +kernel
theorem kc_110 : kChkY 110 = true := by decide +kernel
theorem kc_111 : kChkY 111 = true := by decide +kernel
theorem kc_112 : kChkY 112 = true := by decide +kernel
theorem kc_113 : kChkY 113 = true := by decide +kernel
theorem kc_114 : kChkY 114 = true := by decide +kernel
theorem kc_115 : kChkY 115 = true := by decide +kernel
theorem kc_116 : kChkY 116 = true := by decide +kernel
theorem kc_117 : kChkY 117 = true := by decide +kernel
theorem kc_118 : kChkY 118 = true := by decide +kernel
theorem kc_119 : kChkY 119 = true := by decide +kernel
theorem kc_120 : kChkY 120 = true := by decide +kernel
theorem kc_121 : kChkY 121 = true := by decide +kernel
theorem kc_122 : kChkY 122 = true := by decide +kernel
theorem kc_123 : kChkY 123 = true := by decide +kernel
theorem kc_124 : kChkY 124 = true := by decide +kernel
theorem kc_125 : kChkY 125 = true := by decide +kernel
theorem kc_126 : kChkY 126 = true := by decide +kernel
theorem kc_127 : kChkY 127 = true := by decide +kernel
theorem kc_128 : kChkY 128 = true := by decide +kernel
theorem kc_129 : kChkY 129 = true := by decide +kernel
theorem kc_130 : kChkY 130 = true := by decide +kernel
theorem kc_131 : kChkY 131 = true := by decide +kernel
theorem kc_132 : kChkY 132 = true := by decide +kernel
theorem kc_133 : kChkY 133 = true := by decide +kernel
theorem kc_134 : kChkY 134 = true := by decide +kernel
theorem kc_135 : kChkY 135 = true := by decide +kernel
theorem kc_136 : kChkY 136 = true := by decide +kernel
theorem kc_137 : kChkY 137 = true := by decide +kernel
theorem kc_138 : kChkY 138 = true := by decide +kernel
theorem kc_139 : kChkY 139 = true := by decide +kernel
theorem kc_140 : kChkY 140 = true := by decide +kernel
theorem kc_141 : kChkY 141 = true := by decide +kernel
theorem kc_142 : kChkY 142 = true := by decide +kernel
theorem kc_143 : kChkY 143 = true := by decide +kernel
theorem kc_144 : kChkY 144 = true := by decide +kernel
theorem kc_145 : kChkY 145 = true := by decide +kernel
theorem kc_146 : kChkY 146 = true := by decide +kernel
theorem kc_147 : kChkY 147 = true := by decide +kernel
theorem kc_148 : kChkY 148 = true := by decide +kernel
theorem kc_149 : kChkY 149 = true := by decide +kernel
theorem kc_150 : kChkY 150 = true := by decide +kernel
theorem kc_151 : kChkY 151 = true := by decide +kernel
theorem kc_152 : kChkY 152 = true := by decide +kernel
theorem kc_153 : kChkY 153 = true := by decide +kernel
theorem kc_154 : kChkY 154 = true := by decide +kernel
theorem kc_155 : kChkY 155 = true := by decide +kernel
theorem kc_156 : kChkY 156 = true := by decide +kernel
theorem kc_157 : kChkY 157 = true := by decide +kernel
theorem kc_158 : kChkY 158 = true := by decide +kernel
theorem kc_159 : kChkY 159 = true := by decide +kernel
theorem kc_160 : kChkY 160 = true := by decide +kernel
theorem kc_161 : kChkY 161 = true := by decide +kernel
theorem kc_162 : kChkY 162 = true := by decide +kernel
theorem kc_163 : kChkY 163 = true := by decide +kernel
theorem kc_164 : kChkY 164 = true := by decide +kernel
theorem kc_165 : kChkY 165 = true := by decide +kernel
theorem kc_166 : kChkY 166 = true := by decide +kernel
theorem kc_167 : kChkY 167 = true := by decide +kernel
theorem kc_168 : kChkY 168 = true := by decide +kernel
theorem kc_169 : kChkY 169 = true := by decide +kernel
theorem kc_170 : kChkY 170 = true := by decide +kernel
theorem kc_171 : kChkY 171 = true := by decide +kernel
theorem kc_172 : kChkY 172 = true := by decide +kernel
theorem kc_173 : kChkY 173 = true := by decide +kernel
theorem kc_174 : kChkY 174 = true := by decide +kernel
theorem kc_175 : kChkY 175 = true := by decide +kernel
theorem kc_176 : kChkY 176 = true := by decide +kernel
theorem kc_177 : kChkY 177 = true := by decide +kernel
theorem kc_178 : kChkY 178 = true := by decide +kernel
theorem kc_179 : kChkY 179 = true := by decide +kernel
theorem kc_180 : kChkY 180 = true := by decide +kernel
theorem kc_181 : kChkY 181 = true := by decide +kernel
theorem kc_182 : kChkY 182 = true := by decide +kernel
theorem kc_183 : kChkY 183 = true := by decide +kernel
theorem kc_184 : kChkY 184 = true := by decide +kernel
theorem kc_185 : kChkY 185 = true := by decide +kernel
theorem kc_186 : kChkY 186 = true := by decide +kernel
theorem kc_187 : kChkY 187 = true := by decide +kernel
theorem kc_188 : kChkY 188 = true := by decide +kernel
theorem kc_189 : kChkY 189 = true := by decide +kernel
theorem kc_190 : kChkY 190 = true := by decide +kernel
theorem kc_191 : kChkY 191 = true := by decide +kernel
theorem kc_192 : kChkY 192 = true := by decide +kernel
theorem kc_193 : kChkY 193 = true := by decide +kernel
theorem kc_194 : kChkY 194 = true := by decide +kernel
theorem kc_195 : kChkY 195 = true := by decide +kernel
theorem kc_196 : kChkY 196 = true := by decide +kernel
theorem kc_197 : kChkY 197 = true := by decide +kernel
theorem kc_198 : kChkY 198 = true := by decide +kernel
theorem kc_199 : kChkY 199 = true := by decide +kernel
theorem kc_200 : kChkY 200 = true := by decide +kernel
theorem kc_201 : kChkY 201 = true := by decide +kernel
theorem kc_202 : kChkY 202 = true := by decide +kernel
theorem kc_203 : kChkY 203 = true := by decide +kernel
theorem kc_204 : kChkY 204 = true := by decide +kernel
theorem kc_205 : kChkY 205 = true := by decide +kernel
theorem kc_206 : kChkY 206 = true := by decide +kernel
theorem kc_207 : kChkY 207 = true := by decide +kernel
theorem kc_208 : kChkY 208 = true := by decide +kernel
theorem kc_209 : kChkY 209 = true := by decide +kernel
theorem kc_210 : kChkY 210 = true := by decide +kernel
theorem kc_211 : kChkY 211 = true := by decide +kernel
theorem kc_212 : kChkY 212 = true := by decide +kernel
theorem kc_213 : kChkY 213 = true := by decide +kernel
theorem kc_214 : kChkY 214 = true := by decide +kernel
theorem kc_215 : kChkY 215 = true := by decide +kernel
theorem kc_216 : kChkY 216 = true := by decide +kernel
theorem kc_217 : kChkY 217 = true := by decide +kernel
theorem kc_218 : kChkY 218 = true := by decide +kernel
theorem kc_219 : kChkY 219 = true := by decide +kernel
theorem kc_220 : kChkY 220 = true := by decide +kernel
theorem kc_221 : kChkY 221 = true := by decide +kernel
theorem kc_222 : kChkY 222 = true := by decide +kernel
theorem kc_223 : kChkY 223 = true := by decide +kernel
theorem kc_224 : kChkY 224 = true := by decide +kernel
theorem kc_225 : kChkY 225 = true := by decide +kernel
theorem kc_226 : kChkY 226 = true := by decide +kernel
theorem kc_227 : kChkY 227 = true := by decide +kernel
theorem kc_228 : kChkY 228 = true := by decide +kernel
theorem kc_229 : kChkY 229 = true := by decide +kernel
theorem kc_230 : kChkY 230 = true := by decide +kernel
theorem kc_231 : kChkY 231 = true := by decide +kernel
theorem kc_232 : kChkY 232 = true := by decide +kernel
theorem kc_233 : kChkY 233 = true := by decide +kernel
theorem kc_234 : kChkY 234 = true := by decide +kernel
theorem kc_235 : kChkY 235 = true := by decide +kernel
theorem kc_236 : kChkY 236 = true := by decide +kernel
theorem kc_237 : kChkY 237 = true := by decide +kernel
theorem kc_238 : kChkY 238 = true := by decide +kernel
theorem kc_239 : kChkY 239 = true := by decide +kernel
theorem kc_240 : kChkY 240 = true := by decide +kernel
theorem kc_241 : kChkY 241 = true := by decide +kernel
theorem kc_242 : kChkY 242 = true := by decide +kernel
theorem kc_243 : kChkY 243 = true := by decide +kernel
theorem kc_244 : kChkY 244 = true := by decide +kernel
theorem kc_245 : kChkY 245 = true := by decide +kernel
theorem kc_246 : kChkY 246 = true := by decide +kernel
theorem kc_247 : kChkY 247 = true := by decide +kernel
theorem kc_248 : kChkY 248 = true := by decide +kernel
theorem kc_249 : kChkY 249 = true := by decide +kernel
theorem kc_250 : kChkY 250 = true := by decide +kernel
theorem all_td {α : Type} {p : α → Bool} (n : Nat) {l : List α} (h1 : (l.take n).all p = true) (h2 : (l.drop n).all p = true) : l.all p = true := by
  rw [← List.take_append_drop n l, List.all_append, h1, h2]
  rfl
theorem kl_0 : (List.take 50 (code9 251)).all (kChk1 (mByt 251)) = true := by decide +kernel
theorem kl_1 : (List.take 50 (List.drop 50 (code9 251))).all (kChk1 (mByt 251)) = true := by decide +kernel
theorem kl_2 : (List.take 50 (List.drop 50 (List.drop 50 (code9 251)))).all (kChk1 (mByt 251)) = true := by decide +kernel
theorem kl_3 : (List.take 50 (List.drop 50 (List.drop 50 (List.drop 50 (code9 251))))).all (kChk1 (mByt 251)) = true := by decide +kernel
theorem kl_4 : (List.take 50 (List.drop 50 (List.drop 50 (List.drop 50 (List.drop 50 (code9 251)))))).all (kChk1 (mByt 251)) = true := by decide +kernel
theorem kl_5 : (List.take 50 (List.drop 50 (List.drop 50 (List.drop 50 (List.drop 50 (List.drop 50 (code9 251))))))).all (kChk1 (mByt 251)) = true := by decide +kernel
theorem kl_6 : (List.take 50 (List.drop 50 (List.drop 50 (List.drop 50 (List.drop 50 (List.drop 50 (List.drop 50 (code9 251)))))))).all (kChk1 (mByt 251)) = true := by decide +kernel
theorem kl_7 : (List.take 50 (List.drop 50 (List.drop 50 (List.drop 50 (List.drop 50 (List.drop 50 (List.drop 50 (List.drop 50 (code9 251))))))))).all (kChk1 (mByt 251)) = true := by decide +kernel
theorem kl_8 : (List.take 50 (List.drop 50 (List.drop 50 (List.drop 50 (List.drop 50 (List.drop 50 (List.drop 50 (List.drop 50 (List.drop 50 (code9 251)))))))))).all (kChk1 (mByt 251)) = true := by decide +kernel
theorem kl_9 : (List.take 50 (List.drop 50 (List.drop 50 (List.drop 50 (List.drop 50 (List.drop 50 (List.drop 50 (List.drop 50 (List.drop 50 (List.drop 50 (code9 251))))))))))).all (kChk1 (mByt 251)) = true := by decide +kernel
theorem kl_10 : (List.take 50 (List.drop 50 (List.drop 50 (List.drop 50 (List.drop 50 (List.drop 50 (List.drop 50 (List.drop 50 (List.drop 50 (List.drop 50 (List.drop 50 (code9 251)))))))))))).all (kChk1 (mByt 251)) = true := by decide +kernel
theorem kl_11 : (List.take 50 (List.drop 50 (List.drop 50 (List.drop 50 (List.drop 50 (List.drop 50 (List.drop 50 (List.drop 50 (List.drop 50 (List.drop 50 (List.drop 50 (List.drop 50 (code9 251))))))))))))).all (kChk1 (mByt 251)) = true := by decide +kernel
theorem kl_12 : (List.take 50 (List.drop 50 (List.drop 50 (List.drop 50 (List.drop 50 (List.drop 50 (List.drop 50 (List.drop 50 (List.drop 50 (List.drop 50 (List.drop 50 (List.drop 50 (List.drop 50 (code9 251)))))))))))))).all (kChk1 (mByt 251)) = true := by decide +kernel
theorem kl_13 : (List.take 50 (List.drop 50 (List.drop 50 (List.drop 50 (List.drop 50 (List.drop 50 (List.drop 50 (List.drop 50 (List.drop 50 (List.drop 50 (List.drop 50 (List.drop 50 (List.drop 50 (List.drop 50 (code9 251))))))))))))))).all (kChk1 (mByt 251)) = true := by decide +kernel
theorem kl_14 : (List.take 50 (List.drop 50 (List.drop 50 (List.drop 50 (List.drop 50 (List.drop 50 (List.drop 50 (List.drop 50 (List.drop 50 (List.drop 50 (List.drop 50 (List.drop 50 (List.drop 50 (List.drop 50 (List.drop 50 (code9 251)))))))))))))))).all (kChk1 (mByt 251)) = true := by decide +kernel
theorem kl_15 : (List.take 50 (List.drop 50 (List.drop 50 (List.drop 50 (List.drop 50 (List.drop 50 (List.drop 50 (List.drop 50 (List.drop 50 (List.drop 50 (List.drop 50 (List.drop 50 (List.drop 50 (List.drop 50 (List.drop 50 (List.drop 50 (code9 251))))))))))))))))).all (kChk1 (mByt 251)) = true := by decide +kernel
theorem kl_16 : (List.take 50 (List.drop 50 (List.drop 50 (List.drop 50 (List.drop 50 (List.drop 50 (List.drop 50 (List.drop 50 (List.drop 50 (List.drop 50 (List.drop 50 (List.drop 50 (List.drop 50 (List.drop 50 (List.drop 50 (List.drop 50 (List.drop 50 (code9 251)))))))))))))))))).all (kChk1 (mByt 251)) = true := by decide +kernel
theorem kl_17 : (List.take 50 (List.drop 50 (List.drop 50 (List.drop 50 (List.drop 50 (List.drop 50 (List.drop 50 (List.drop 50 (List.drop 50 (List.drop 50 (List.drop 50 (List.drop 50 (List.drop 50 (List.drop 50 (List.drop 50 (List.drop 50 (List.drop 50 (List.drop 50 (code9 251))))))))))))))))))).all (kChk1 (mByt 251)) = true := by decide +kernel
theorem kl_18 : (List.take 50 (List.drop 50 (List.drop 50 (List.drop 50 (List.drop 50 (List.drop 50 (List.drop 50 (List.drop 50 (List.drop 50 (List.drop 50 (List.drop 50 (List.drop 50 (List.drop 50 (List.drop 50 (List.drop 50 (List.drop 50 (List.drop 50 (List.drop 50 (List.drop 50 (code9 251)))))))))))))))))))).all (kChk1 (mByt 251)) = true := by decide +kernel
theorem kl_19 : (List.take 50 (List.drop 50 (List.drop 50 (List.drop 50 (List.drop 50 (List.drop 50 (List.drop 50 (List.drop 50 (List.drop 50 (List.drop 50 (List.drop 50 (List.drop 50 (List.drop 50 (List.drop 50 (List.drop 50 (List.drop 50 (List.drop 50 (List.drop 50 (List.drop 50 (List.drop 50 (code9 251))))))))))))))))))))).all (kChk1 (mByt 251)) = true := by decide +kernel
theorem kl_end : ((List.drop 50 (List.drop 50 (List.drop 50 (List.drop 50 (List.drop 50 (List.drop 50 (List.drop 50 (List.drop 50 (List.drop 50 (List.drop 50 (List.drop 50 (List.drop 50 (List.drop 50 (List.drop 50 (List.drop 50 (List.drop 50 (List.drop 50 (List.drop 50 (List.drop 50 (List.drop 50 (code9 251)))))))))))))))))))))).all (kChk1 (mByt 251)) = true := by decide +kernel
theorem kc_251 : kChkY 251 = true := all_td 50 kl_0 (all_td 50 kl_1 (all_td 50 kl_2 (all_td 50 kl_3 (all_td 50 kl_4 (all_td 50 kl_5 (all_td 50 kl_6 (all_td 50 kl_7 (all_td 50 kl_8 (all_td 50 kl_9 (all_td 50 kl_10 (all_td 50 kl_11 (all_td 50 kl_12 (all_td 50 kl_13 (all_td 50 kl_14 (all_td 50 kl_15 (all_td 50 kl_16 (all_td 50 kl_17 (all_td 50 kl_18 (all_td 50 kl_19 (kl_end))))))))))))))))))))
theorem kc_b0 : ∀ y ∈ List.range' 0 21, kChkY y = true := List.forall_mem_cons.mpr ⟨kc_0, List.forall_mem_cons.mpr ⟨kc_1, List.forall_mem_cons.mpr ⟨kc_2, List.forall_mem_cons.mpr ⟨kc_3, List.forall_mem_cons.mpr ⟨kc_4, List.forall_mem_cons.mpr ⟨kc_5, List.forall_mem_cons.mpr ⟨kc_6, List.forall_mem_cons.mpr ⟨kc_7, List.forall_mem_cons.mpr ⟨kc_8, List.forall_mem_cons.mpr ⟨kc_9, List.forall_mem_cons.mpr ⟨kc_10, List.forall_mem_cons.mpr ⟨kc_11, List.forall_mem_cons.mpr ⟨kc_12, List.forall_mem_cons.mpr ⟨kc_13, List.forall_mem_cons.mpr ⟨kc_14, List.forall_mem_cons.mpr ⟨kc_15, List.forall_mem_cons.mpr ⟨kc_16, List.forall_mem_cons.mpr ⟨kc_17, List.forall_mem_cons.mpr ⟨kc_18, List.forall_mem_cons.mpr ⟨kc_19, List.forall_mem_cons.mpr ⟨kc_20, fun _ h => absurd h List.not_mem_nil⟩⟩⟩⟩⟩⟩⟩⟩⟩⟩⟩⟩⟩⟩⟩⟩⟩⟩⟩⟩⟩
theorem kc_b1 : ∀ y ∈ List.range' 21 21, kChkY y = true := List.forall_mem_cons.mpr ⟨kc_21, List.forall_mem_cons.mpr ⟨kc_22, List.forall_mem_cons.mpr ⟨kc_23, List.forall_mem_cons.mpr ⟨kc_24, List.forall_mem_cons.mpr ⟨kc_25, List.forall_mem_cons.mpr ⟨kc_26, List.forall_mem_cons.mpr ⟨kc_27, List.forall_mem_cons.mpr ⟨kc_28, List.forall_mem_cons.mpr ⟨kc_29, List.forall_mem_cons.mpr ⟨kc_30, List.forall_mem_cons.mpr ⟨kc_31, List.forall_mem_cons.mpr ⟨kc_32, List.forall_mem_cons.mpr ⟨kc_33, List.forall_mem_cons.mpr ⟨kc_34, List.forall_mem_cons.mpr ⟨kc_35, List.forall_mem_cons.mpr ⟨kc_36, List.forall_mem_cons.mpr ⟨kc_37, List.forall_mem_cons.mpr ⟨kc_38, List.forall_mem_cons.mpr ⟨kc_39, List.forall_mem_cons.mpr ⟨kc_40, List.forall_mem_cons.mpr ⟨kc_41, fun _ h => absurd h List.not_mem_nil⟩⟩⟩⟩⟩⟩⟩⟩⟩⟩⟩⟩⟩⟩⟩⟩⟩⟩⟩⟩⟩
theorem kc_b2 : ∀ y ∈ List.range' 42 21, kChkY y = true := List.forall_mem_cons.mpr ⟨kc_42, List.forall_mem_cons.mpr ⟨kc_43, List.forall_mem_cons.mpr ⟨kc_44, List.forall_mem_cons.mpr ⟨kc_45, List.forall_mem_cons.mpr ⟨kc_46, List.forall_mem_cons.mpr ⟨kc_47, List.forall_mem_cons.mpr ⟨kc_48, List.forall_mem_cons.mpr ⟨kc_49, List.forall_mem_cons.mpr ⟨kc_50, List.forall_mem_cons.mpr ⟨kc_51, List.forall_mem_cons.mpr ⟨kc_52, List.forall_mem_cons.mpr ⟨kc_53, List.forall_mem_cons.mpr ⟨kc_54, List.forall_mem_cons.mpr ⟨kc_55, List.forall_mem_cons.mpr ⟨kc_56, List.forall_mem_cons.mpr ⟨kc_57, List.forall_mem_cons.mpr ⟨kc_58, List.forall_mem_cons.mpr ⟨kc_59, List.forall_mem_cons.mpr ⟨kc_60, List.forall_mem_cons.mpr ⟨kc_61, List.forall_mem_cons.mpr ⟨kc_62, fun _ h => absurd h List.not_mem_nil⟩⟩⟩⟩⟩⟩⟩⟩⟩⟩⟩⟩⟩⟩⟩⟩⟩⟩⟩⟩⟩
theorem kc_b3 : ∀ y ∈ List.range' 63 21, kChkY y = true := List.forall_mem_cons.mpr ⟨kc_63, List.forall_mem_cons.mpr ⟨kc_64, List.forall_mem_cons.mpr ⟨kc_65, List.forall_mem_cons.mpr ⟨kc_66, List.forall_mem_cons.mpr ⟨kc_67, List.forall_mem_cons.mpr ⟨kc_68, List.forall_mem_cons.mpr ⟨kc_69, List.forall_mem_cons.mpr ⟨kc_70, List.forall_mem_cons.mpr ⟨kc_71, List.forall_mem_cons.mpr ⟨kc_72, List.forall_mem_cons.mpr ⟨kc_73, List.forall_mem_cons.mpr ⟨kc_74, List.forall_mem_cons.mpr ⟨kc_75, List.forall_mem_cons.mpr ⟨kc_76, List.forall_mem_cons.mpr ⟨kc_77, List.forall_mem_cons.mpr ⟨kc_78, List.forall_mem_cons.mpr ⟨kc_79, List.forall_mem_cons.mpr ⟨kc_80, List.forall_mem_cons.mpr ⟨kc_81, List.forall_mem_cons.mpr ⟨kc_82, List.forall_mem_cons.mpr ⟨kc_83, fun _ h => absurd h List.not_mem_nil⟩⟩⟩⟩⟩⟩⟩⟩⟩⟩⟩⟩⟩⟩⟩⟩⟩⟩⟩⟩⟩
theorem kc_b4 : ∀ y ∈ List.range' 84 21, kChkY y = true := List.forall_mem_cons.mpr ⟨kc_84, List.forall_mem_cons.mpr ⟨kc_85, List.forall_mem_cons.mpr ⟨kc_86, List.forall_mem_cons.mpr ⟨kc_87, List.forall_mem_cons.mpr ⟨kc_88, List.forall_mem_cons.mpr ⟨kc_89, List.forall_mem_cons.mpr ⟨kc_90, List.forall_mem_cons.mpr ⟨kc_91, List.forall_mem_cons.mpr ⟨kc_92, List.forall_mem_cons.mpr ⟨kc_93, List.forall_mem_cons.mpr ⟨kc_94, List.forall_mem_cons.mpr ⟨kc_95, List.forall_mem_cons.mpr ⟨kc_96, List.forall_mem_cons.mpr ⟨kc_97, List.forall_mem_cons.mpr ⟨kc_98, List.forall_mem_cons.mpr ⟨kc_99, List.forall_mem_cons.mpr ⟨kc_100, List.forall_mem_cons.mpr ⟨kc_101, List.forall_mem_cons.mpr ⟨kc_102, List.forall_mem_cons.mpr ⟨kc_103, List.forall_mem_cons.mpr ⟨kc_104, fun _ h => absurd h List.not_mem_nil⟩⟩⟩⟩⟩⟩⟩⟩⟩⟩⟩⟩⟩⟩⟩⟩⟩⟩⟩⟩⟩
theorem kc_b5 : ∀ y ∈ List.range' 105 21, kChkY y = true := List.forall_mem_cons.mpr ⟨kc_105, List.forall_mem_cons.mpr ⟨kc_106, List.forall_mem_cons.mpr ⟨kc_107, List.forall_mem_cons.mpr ⟨kc_108, List.forall_mem_cons.mpr ⟨kc_109, List.forall_mem_cons.mpr ⟨kc_110, List.forall_mem_cons.mpr ⟨kc_111, List.forall_mem_cons.mpr ⟨kc_112, List.forall_mem_cons.mpr ⟨kc_113, List.forall_mem_cons.mpr ⟨kc_114, List.forall_mem_cons.mpr ⟨kc_115, List.forall_mem_cons.mpr ⟨kc_116, List.forall_mem_cons.mpr ⟨kc_117, List.forall_mem_cons.mpr ⟨kc_118, List.forall_mem_cons.mpr ⟨kc_119, List.forall_mem_cons.mpr ⟨kc_120, List.forall_mem_cons.mpr ⟨kc_121, List.forall_mem_cons.mpr ⟨kc_122, List.forall_mem_cons.mpr ⟨kc_123, List.forall_mem_cons.mpr ⟨kc_124, List.forall_mem_cons.mpr ⟨kc_125, fun _ h => absurd h List.not_mem_nil⟩⟩⟩⟩⟩⟩⟩⟩⟩⟩⟩⟩⟩⟩⟩⟩⟩⟩⟩⟩⟩
theorem kc_b6 : ∀ y ∈ List.range' 126 21, kChkY y = true := List.forall_mem_cons.mpr ⟨kc_126, List.forall_mem_cons.mpr ⟨kc_127, List.forall_mem_cons.mpr ⟨kc_128, List.forall_mem_cons.mpr ⟨kc_129, List.forall_mem_cons.mpr ⟨kc_130, List.forall_mem_cons.mpr ⟨kc_131, List.forall_mem_cons.mpr ⟨kc_132, List.forall_mem_cons.mpr ⟨kc_133, List.forall_mem_cons.mpr ⟨kc_134, List.forall_mem_cons.mpr ⟨kc_135, List.forall_mem_cons.mpr ⟨kc_136, List.forall_mem_cons.mpr ⟨kc_137, List.forall_mem_cons.mpr ⟨kc_138, List.forall_mem_cons.mpr ⟨kc_139, List.forall_mem_cons.mpr ⟨kc_140, List.forall_mem_cons.mpr ⟨kc_141, List.forall_mem_cons.mpr ⟨kc_142, List.forall_mem_cons.mpr ⟨kc_143, List.forall_mem_cons.mpr ⟨kc_144, List.forall_mem_cons.mpr ⟨kc_145, List.forall_mem_cons.mpr ⟨kc_146, fun _ h => absurd h List.not_mem_nil⟩⟩⟩⟩⟩⟩⟩⟩⟩⟩⟩⟩⟩⟩⟩⟩⟩⟩⟩⟩⟩
theorem kc_b7 : ∀ y ∈ List.range' 147 21, kChkY y = true := List.forall_mem_cons.mpr ⟨kc_147, List.forall_mem_cons.mpr ⟨kc_148, List.forall_mem_cons.mpr ⟨kc_149, List.forall_mem_cons.mpr ⟨kc_150, List.forall_mem_cons.mpr ⟨kc_151, List.forall_mem_cons.mpr ⟨kc_152, List.forall_mem_cons.mpr ⟨kc_153, List.forall_mem_cons.mpr ⟨kc_154, List.forall_mem_cons.mpr ⟨kc_155, List.forall_mem_cons.mpr ⟨kc_156, List.forall_mem_cons.mpr ⟨kc_157, List.forall_mem_cons.mpr ⟨kc_158, List.forall_mem_cons.mpr ⟨kc_159, List.forall_mem_cons.mpr ⟨kc_160, List.forall_mem_cons.mpr ⟨kc_161, List.forall_mem_cons.mpr ⟨kc_162, List.forall_mem_cons.mpr ⟨kc_163, List.forall_mem_cons.mpr ⟨kc_164, List.forall_mem_cons.mpr ⟨kc_165, List.forall_mem_cons.mpr ⟨kc_166, List.forall_mem_cons.mpr ⟨kc_167, fun _ h => absurd h List.not_mem_nil⟩⟩⟩⟩⟩⟩⟩⟩⟩⟩⟩⟩⟩⟩⟩⟩⟩⟩⟩⟩⟩
theorem kc_b8 : ∀ y ∈ List.range' 168 21, kChkY y = true := List.forall_mem_cons.mpr ⟨kc_168, List.forall_mem_cons.mpr ⟨kc_169, List.forall_mem_cons.mpr ⟨kc_170, List.forall_mem_cons.mpr ⟨kc_171, List.forall_mem_cons.mpr ⟨kc_172, List.forall_mem_cons.mpr ⟨kc_173, List.forall_mem_cons.mpr ⟨kc_174, List.forall_mem_cons.mpr ⟨kc_175, List.forall_mem_cons.mpr ⟨kc_176, List.forall_mem_cons.mpr ⟨kc_177, List.forall_mem_cons.mpr ⟨kc_178, List.forall_mem_cons.mpr ⟨kc_179, List.forall_mem_cons.mpr ⟨kc_180, List.forall_mem_cons.mpr ⟨kc_181, List.forall_mem_cons.mpr ⟨kc_182, List.forall_mem_cons.mpr ⟨kc_183, List.forall_mem_cons.mpr ⟨kc_184, List.forall_mem_cons.mpr ⟨kc_185, List.forall_mem_cons.mpr ⟨kc_186, List.forall_mem_cons.mpr ⟨kc_187, List.forall_mem_cons.mpr ⟨kc_188, fun _ h => absurd h List.not_mem_nil⟩⟩⟩⟩⟩⟩⟩⟩⟩⟩⟩⟩⟩⟩⟩⟩⟩⟩⟩⟩⟩
theorem kc_b9 : ∀ y ∈ List.range' 189 21, kChkY y = true := List.forall_mem_cons.mpr ⟨kc_189, List.forall_mem_cons.mpr ⟨kc_190, List.forall_mem_cons.mpr ⟨kc_191, List.forall_mem_cons.mpr ⟨kc_192, List.forall_mem_cons.mpr ⟨kc_193, List.forall_mem_cons.mpr ⟨kc_194, List.forall_mem_cons.mpr ⟨kc_195, List.forall_mem_cons.mpr ⟨kc_196, List.forall_mem_cons.mpr ⟨kc_197, List.forall_mem_cons.mpr ⟨kc_198, List.forall_mem_cons.mpr ⟨kc_199, List.forall_mem_cons.mpr ⟨kc_200, List.forall_mem_cons.mpr ⟨kc_201, List.forall_mem_cons.mpr ⟨kc_202, List.forall_mem_cons.mpr ⟨kc_203, List.forall_mem_cons.mpr ⟨kc_204, List.forall_mem_cons.mpr ⟨kc_205, List.forall_mem_cons.mpr ⟨kc_206, List.forall_mem_cons.mpr ⟨kc_207, List.forall_mem_cons.mpr ⟨kc_208, List.forall_mem_cons.mpr ⟨kc_209, fun _ h => absurd h List.not_mem_nil⟩⟩⟩⟩⟩⟩⟩⟩⟩⟩⟩⟩⟩⟩⟩⟩⟩⟩⟩⟩⟩
theorem kc_b10 : ∀ y ∈ List.range' 210 21, kChkY y = true := List.forall_mem_cons.mpr ⟨kc_210, List.forall_mem_cons.mpr ⟨kc_211, List.forall_mem_cons.mpr ⟨kc_212, List.forall_mem_cons.mpr ⟨kc_213, List.forall_mem_cons.mpr ⟨kc_214, List.forall_mem_cons.mpr ⟨kc_215, List.forall_mem_cons.mpr ⟨kc_216, List.forall_mem_cons.mpr ⟨kc_217, List.forall_mem_cons.mpr ⟨kc_218, List.forall_mem_cons.mpr ⟨kc_219, List.forall_mem_cons.mpr ⟨kc_220, List.forall_mem_cons.mpr ⟨kc_221, List.forall_mem_cons.mpr ⟨kc_222, List.forall_mem_cons.mpr ⟨kc_223, List.forall_mem_cons.mpr ⟨kc_224, List.forall_mem_cons.mpr ⟨kc_225, List.forall_mem_cons.mpr ⟨kc_226, List.forall_mem_cons.mpr ⟨kc_227, List.forall_mem_cons.mpr ⟨kc_228, List.forall_mem_cons.mpr ⟨kc_229, List.forall_mem_cons.mpr ⟨kc_230, fun _ h => absurd h List.not_mem_nil⟩⟩⟩⟩⟩⟩⟩⟩⟩⟩⟩⟩⟩⟩⟩⟩⟩⟩⟩⟩⟩
theorem kc_b11 : ∀ y ∈ List.range' 231 21, kChkY y = true := List.forall_mem_cons.mpr ⟨kc_231, List.forall_mem_cons.mpr ⟨kc_232, List.forall_mem_cons.mpr ⟨kc_233, List.forall_mem_cons.mpr ⟨kc_234, List.forall_mem_cons.mpr ⟨kc_235, List.forall_mem_cons.mpr ⟨kc_236, List.forall_mem_cons.mpr ⟨kc_237, List.forall_mem_cons.mpr ⟨kc_238, List.forall_mem_cons.mpr ⟨kc_239, List.forall_mem_cons.mpr ⟨kc_240, List.forall_mem_cons.mpr ⟨kc_241, List.forall_mem_cons.mpr ⟨kc_242, List.forall_mem_cons.mpr ⟨kc_243, List.forall_mem_cons.mpr ⟨kc_244, List.forall_mem_cons.mpr ⟨kc_245, List.forall_mem_cons.mpr ⟨kc_246, List.forall_mem_cons.mpr ⟨kc_247, List.forall_mem_cons.mpr ⟨kc_248, List.forall_mem_cons.mpr ⟨kc_249, List.forall_mem_cons.mpr ⟨kc_250, List.forall_mem_cons.mpr ⟨kc_251, fun _ h => absurd h List.not_mem_nil⟩⟩⟩⟩⟩⟩⟩⟩⟩⟩⟩⟩⟩⟩⟩⟩⟩⟩⟩⟩⟩
theorem kc_all (y : Nat) (h : y < 252) : kChkY y = true := by
  rcases Nat.lt_or_ge y 21 with h0 | h0
  · exact kc_b0 y (List.mem_range'_1.mpr ⟨Nat.zero_le _, by omega⟩)
  rcases Nat.lt_or_ge y 42 with h1 | h1
  · exact kc_b1 y (List.mem_range'_1.mpr ⟨h0, by omega⟩)
  rcases Nat.lt_or_ge y 63 with h2 | h2
  · exact kc_b2 y (List.mem_range'_1.mpr ⟨h1, by omega⟩)
  rcases Nat.lt_or_ge y 84 with h3 | h3
  · exact kc_b3 y (List.mem_range'_1.mpr ⟨h2, by omega⟩)
  rcases Nat.lt_or_ge y 105 with h4 | h4
  · exact kc_b4 y (List.mem_range'_1.mpr ⟨h3, by omega⟩)
  rcases Nat.lt_or_ge y 126 with h5 | h5
  · exact kc_b5 y (List.mem_range'_1.mpr ⟨h4, by omega⟩)
  rcases Nat.lt_or_ge y 147 with h6 | h6
  · exact kc_b6 y (List.mem_range'_1.mpr ⟨h5, by omega⟩)
  rcases Nat.lt_or_ge y 168 with h7 | h7
  · exact kc_b7 y (List.mem_range'_1.mpr ⟨h6, by omega⟩)
  rcases Nat.lt_or_ge y 189 with h8 | h8
  · exact kc_b8 y (List.mem_range'_1.mpr ⟨h7, by omega⟩)
  rcases Nat.lt_or_ge y 210 with h9 | h9
  · exact kc_b9 y (List.mem_range'_1.mpr ⟨h8, by omega⟩)
  rcases Nat.lt_or_ge y 231 with h10 | h10
  · exact kc_b10 y (List.mem_range'_1.mpr ⟨h9, by omega⟩)
  rcases Nat.lt_or_ge y 252 with h11 | h11
  · exact kc_b11 y (List.mem_range'_1.mpr ⟨h10, by omega⟩)
  exact absurd h (by omega)
end
section
/-! the tables of part 03 against the Statement's, entry by entry (written by wip/whole/gen_chk.py) -/
theorem mt_1 {w : Cond} {i : Nat} (hw : tables_1_1[i]? = some w) : w ∈ lw_tbl := by
  have h := List.mem_of_getElem? hw
  exact List.mem_append_right (k2_sels lw_privs) (List.mem_append_left _ h)
theorem mt_2 {w : Cond} {i : Nat} (hw : tables_1_2[i]? = some w) : w ∈ lw_tbl := by
  have h := List.mem_of_getElem? hw
  exact List.mem_append_right (k2_sels lw_privs) (List.mem_append_right _ (List.mem_append_left _ h))
theorem mt_3 {w : Cond} {i : Nat} (hw : tables_1_3[i]? = some w) : w ∈ lw_tbl := by
  have h := List.mem_of_getElem? hw
  exact List.mem_append_right (k2_sels lw_privs) (List.mem_append_right _ (List.mem_append_right _ (List.mem_append_left _ h)))
theorem mt_4 {w : Cond} {i : Nat} (hw : tables_1_4[i]? = some w) : w ∈ lw_tbl := by
  have h := List.mem_of_getElem? hw
  exact List.mem_append_right (k2_sels lw_privs) (List.mem_append_right _ (List.mem_append_right _ (List.mem_append_right _ (List.mem_append_left _ h))))
theorem mt_5 {w : Cond} {i : Nat} (hw : tables_1_5[i]? = some w) : w ∈ lw_tbl := by
  have h := List.mem_of_getElem? hw
  exact List.mem_append_right (k2_sels lw_privs) (List.mem_append_right _ (List.mem_append_right _ (List.mem_append_right _ (List.mem_append_right _ (List.mem_append_left _ h)))))
theorem mt_6 {w : Cond} {i : Nat} (hw : tables_1_6[i]? = some w) : w ∈ lw_tbl := by
  have h := List.mem_of_getElem? hw
  exact List.mem_append_right (k2_sels lw_privs) (List.mem_append_right _ (List.mem_append_right _ (List.mem_append_right _ (List.mem_append_right _ (List.mem_append_right _ (List.mem_append_left _ h))))))
theorem mt_7 {w : Cond} {i : Nat} (hw : tables_1_7[i]? = some w) : w ∈ lw_tbl := by
  have h := List.mem_of_getElem? hw
  exact List.mem_append_right (k2_sels lw_privs) (List.mem_append_right _ (List.mem_append_right _ (List.mem_append_right _ (List.mem_append_right _ (List.mem_append_right _ (List.mem_append_right _ (List.mem_append_left _ h)))))))
theorem mt_8 {w : Cond} {i : Nat} (hw : tables_1_8[i]? = some w) : w ∈ lw_tbl := by
  have h := List.mem_of_getElem? hw
  exact List.mem_append_right (k2_sels lw_privs) (List.mem_append_right _ (List.mem_append_right _ (List.mem_append_right _ (List.mem_append_right _ (List.mem_append_right _ (List.mem_append_right _ (List.mem_append_right _ (h))))))))
theorem ms_1 {q : MethodName × Nat} {i : Nat} (hw : lw_privs_1[i]? = some q) : q ∈ lw_privs := by
  have h := List.mem_of_getElem? hw
  exact List.mem_append_left _ h
theorem ms_2 {q : MethodName × Nat} {i : Nat} (hw : lw_privs_2[i]? = some q) : q ∈ lw_privs := by
  have h := List.mem_of_getElem? hw
  exact List.mem_append_right _ (List.mem_append_left _ h)
theorem ms_3 {q : MethodName × Nat} {i : Nat} (hw : lw_privs_3[i]? = some q) : q ∈ lw_privs := by
  have h := List.mem_of_getElem? hw
  exact List.mem_append_right _ (List.mem_append_right _ (List.mem_append_left _ h))
theorem ms_4 {q : MethodName × Nat} {i : Nat} (hw : lw_privs_4[i]? = some q) : q ∈ lw_privs := by
  have h := List.mem_of_getElem? hw
  exact List.mem_append_right _ (List.mem_append_right _ (List.mem_append_right _ (List.mem_append_left _ h)))
theorem ms_5 {q : MethodName × Nat} {i : Nat} (hw : lw_privs_5[i]? = some q) : q ∈ lw_privs := by
  have h := List.mem_of_getElem? hw
  exact List.mem_append_right _ (List.mem_append_right _ (List.mem_append_right _ (List.mem_append_right _ (List.mem_append_left _ h))))
theorem ms_6 {q : MethodName × Nat} {i : Nat} (hw : lw_privs_6[i]? = some q) : q ∈ lw_privs := by
  have h := List.mem_of_getElem? hw
  exact List.mem_append_right _ (List.mem_append_right _ (List.mem_append_right _ (List.mem_append_right _ (List.mem_append_right _ (List.mem_append_left _ h)))))
theorem ms_7 {q : MethodName × Nat} {i : Nat} (hw : lw_privs_7[i]? = some q) : q ∈ lw_privs := by
  have h := List.mem_of_getElem? hw
  exact List.mem_append_right _ (List.mem_append_right _ (List.mem_append_right _ (List.mem_append_right _ (List.mem_append_right _ (List.mem_append_right _ (h))))))
theorem ms_w {q : MethodName × Nat} {w : Cond} (h : q ∈ lw_privs) (e : k2_sels [q] = [w]) : w ∈ lw_tbl := by
  refine List.mem_append_left _ ?_
  have h2 : w ∈ k2_sels [q] := by rw [e]; exact List.mem_singleton.mpr rfl
  unfold k2_sels at h2 ⊢
  first
    | (simp only [List.map_cons, List.map_nil, List.mem_singleton] at h2; exact List.mem_map.mpr ⟨q, h, h2.symm⟩)
    | (simp only [List.mem_flatMap, List.mem_singleton] at h2 ⊢; obtain ⟨a, rfl, h3⟩ := h2; exact ⟨a, h, h3⟩)
def cN9 (ci : Nat) : String := (cls9.getD ci ("", jT0, 0)).1
def cT9 (ci : Nat) : u_T := (cls9.getD ci ("", jT0, 0)).2.1
def cS9 (ci : Nat) : Nat := (cls9.getD ci ("", jT0, 0)).2.2
def FK (cx : Nat) (e : Nat × Nat × Nat × Nat × Nat) : Prop := e.2.1 < 12 ∧ e.2.2.1 < cS9 e.2.1 ∧ Cond.fieldLink (cnm cx) e.1 (cN9 e.2.1) (cT9 e.2.1 e.2.2.1).2.1 (cT9 e.2.1 e.2.2.1).2.2.1 ∈ lw_tbl ∧ (cT9 e.2.1 e.2.2.1).1 = cN9 e.2.1 ∧ e.2.2.2.1 = ftc e.2.1 e.2.2.1
set_option maxRecDepth 20000 in
theorem fk_0_0 : FK 0 (9, 0, 2, 2, 336) := ⟨Nat.le_of_ble_eq_true rfl, Nat.le_of_ble_eq_true rfl, mt_1 (i := 225) rfl, rfl, rfl⟩
set_option maxRecDepth 20000 in
theorem fk_0_1 : FK 0 (15, 0, 3, 2, 337) := ⟨Nat.le_of_ble_eq_true rfl, Nat.le_of_ble_eq_true rfl, mt_1 (i := 226) rfl, rfl, rfl⟩
set_option maxRecDepth 20000 in
theorem fk_0_2 : FK 0 (18, 0, 4, 0, 338) := ⟨Nat.le_of_ble_eq_true rfl, Nat.le_of_ble_eq_true rfl, mt_1 (i := 227) rfl, rfl, rfl⟩
set_option maxRecDepth 20000 in
theorem fk_0_3 : FK 0 (22, 0, 5, 2, 339) := ⟨Nat.le_of_ble_eq_true rfl, Nat.le_of_ble_eq_true rfl, mt_1 (i := 228) rfl, rfl, rfl⟩
set_option maxRecDepth 20000 in
theorem fk_0_4 : FK 0 (25, 0, 0, 2, 334) := ⟨Nat.le_of_ble_eq_true rfl, Nat.le_of_ble_eq_true rfl, mt_1 (i := 223) rfl, rfl, rfl⟩
set_option maxRecDepth 20000 in
theorem fk_0_5 : FK 0 (34, 0, 1, 2, 335) := ⟨Nat.le_of_ble_eq_true rfl, Nat.le_of_ble_eq_true rfl, mt_1 (i := 224) rfl, rfl, rfl⟩
set_option maxRecDepth 20000 in
theorem fk_0_6 : FK 0 (48, 3, 11, 0, 253) := ⟨Nat.le_of_ble_eq_true rfl, Nat.le_of_ble_eq_true rfl, mt_1 (i := 142) rfl, rfl, rfl⟩
set_option maxRecDepth 20000 in
theorem fk_0_7 : FK 0 (51, 3, 2, 2, 225) := ⟨Nat.le_of_ble_eq_true rfl, Nat.le_of_ble_eq_true rfl, mt_1 (i := 114) rfl, rfl, rfl⟩
set_option maxRecDepth 20000 in
theorem fk_0_8 : FK 0 (61, 3, 9, 2, 248) := ⟨Nat.le_of_ble_eq_true rfl, Nat.le_of_ble_eq_true rfl, mt_1 (i := 137) rfl, rfl, rfl⟩
set_option maxRecDepth 20000 in
theorem fk_0_9 : FK 0 (64, 3, 3, 2, 229) := ⟨Nat.le_of_ble_eq_true rfl, Nat.le_of_ble_eq_true rfl, mt_1 (i := 118) rfl, rfl, rfl⟩
set_option maxRecDepth 20000 in
theorem fk_0_10 : FK 0 (67, 3, 7, 2, 243) := ⟨Nat.le_of_ble_eq_true rfl, Nat.le_of_ble_eq_true rfl, mt_1 (i := 132) rfl, rfl, rfl⟩
set_option maxRecDepth 20000 in
theorem fk_0_11 : FK 0 (70, 3, 8, 2, 246) := ⟨Nat.le_of_ble_eq_true rfl, Nat.le_of_ble_eq_true rfl, mt_1 (i := 135) rfl, rfl, rfl⟩
set_option maxRecDepth 20000 in
theorem fk_0_12 : FK 0 (76, 3, 10, 2, 250) := ⟨Nat.le_of_ble_eq_true rfl, Nat.le_of_ble_eq_true rfl, mt_1 (i := 139) rfl, rfl, rfl⟩
set_option maxRecDepth 20000 in
theorem fk_0_13 : FK 0 (95, 1, 7, 0, 314) := ⟨Nat.le_of_ble_eq_true rfl, Nat.le_of_ble_eq_true rfl, mt_1 (i := 203) rfl, rfl, rfl⟩
set_option maxRecDepth 20000 in
theorem fk_0_14 : FK 0 (98, 1, 4, 2, 308) := ⟨Nat.le_of_ble_eq_true rfl, Nat.le_of_ble_eq_true rfl, mt_1 (i := 197) rfl, rfl, rfl⟩
set_option maxRecDepth 20000 in
theorem fk_0_15 : FK 0 (107, 3, 5, 2, 237) := ⟨Nat.le_of_ble_eq_true rfl, Nat.le_of_ble_eq_true rfl, mt_1 (i := 126) rfl, rfl, rfl⟩
set_option maxRecDepth 20000 in
theorem fk_0_16 : FK 0 (110, 3, 1, 2, 222) := ⟨Nat.le_of_ble_eq_true rfl, Nat.le_of_ble_eq_true rfl, mt_1 (i := 111) rfl, rfl, rfl⟩
set_option maxRecDepth 20000 in
theorem fk_0_17 : FK 0 (111, 3, 6, 2, 240) := ⟨Nat.le_of_ble_eq_true rfl, Nat.le_of_ble_eq_true rfl, mt_1 (i := 129) rfl, rfl, rfl⟩
set_option maxRecDepth 20000 in
theorem fk_0_18 : FK 0 (122, 1, 5, 2, 310) := ⟨Nat.le_of_ble_eq_true rfl, Nat.le_of_ble_eq_true rfl, mt_1 (i := 199) rfl, rfl, rfl⟩
set_option maxRecDepth 20000 in
theorem fk_0_19 : FK 0 (130, 3, 4, 2, 235) := ⟨Nat.le_of_ble_eq_true rfl, Nat.le_of_ble_eq_true rfl, mt_1 (i := 124) rfl, rfl, rfl⟩
set_option maxRecDepth 20000 in
theorem fk_0_20 : FK 0 (136, 1, 6, 2, 312) := ⟨Nat.le_of_ble_eq_true rfl, Nat.le_of_ble_eq_true rfl, mt_1 (i := 201) rfl, rfl, rfl⟩
set_option maxRecDepth 20000 in
theorem fk_0_21 : FK 0 (147, 3, 12, 0, 257) := ⟨Nat.le_of_ble_eq_true rfl, Nat.le_of_ble_eq_true rfl, mt_1 (i := 146) rfl, rfl, rfl⟩
set_option maxRecDepth 20000 in
theorem fk_0 : ∀ e ∈ fTL.getD 0 [], FK 0 e := List.forall_mem_cons.mpr ⟨fk_0_0, List.forall_mem_cons.mpr ⟨fk_0_1, List.forall_mem_cons.mpr ⟨fk_0_2, List.forall_mem_cons.mpr ⟨fk_0_3, List.forall_mem_cons.mpr ⟨fk_0_4, List.forall_mem_cons.mpr ⟨fk_0_5, List.forall_mem_cons.mpr ⟨fk_0_6, List.forall_mem_cons.mpr ⟨fk_0_7, List.forall_mem_cons.mpr ⟨fk_0_8, List.forall_mem_cons.mpr ⟨fk_0_9, List.forall_mem_cons.mpr ⟨fk_0_10, List.forall_mem_cons.mpr ⟨fk_0_11, List.forall_mem_cons.mpr ⟨fk_0_12, List.forall_mem_cons.mpr ⟨fk_0_13, List.forall_mem_cons.mpr ⟨fk_0_14, List.forall_mem_cons.mpr ⟨fk_0_15, List.forall_mem_cons.mpr ⟨fk_0_16, List.forall_mem_cons.mpr ⟨fk_0_17, List.forall_mem_cons.mpr ⟨fk_0_18, List.forall_mem_cons.mpr ⟨fk_0_19, List.forall_mem_cons.mpr ⟨fk_0_20, List.forall_mem_cons.mpr ⟨fk_0_21, fun _ h => absurd h List.not_mem_nil⟩⟩⟩⟩⟩⟩⟩⟩⟩⟩⟩⟩⟩⟩⟩⟩⟩⟩⟩⟩⟩⟩
set_option maxRecDepth 20000 in
theorem fk_1_0 : FK 1 (9, 1, 1, 2, 304) := ⟨Nat.le_of_ble_eq_true rfl, Nat.le_of_ble_eq_true rfl, mt_1 (i := 193) rfl, rfl, rfl⟩
set_option maxRecDepth 20000 in
theorem fk_1_1 : FK 1 (15, 1, 2, 2, 305) := ⟨Nat.le_of_ble_eq_true rfl, Nat.le_of_ble_eq_true rfl, mt_1 (i := 194) rfl, rfl, rfl⟩
set_option maxRecDepth 20000 in
theorem fk_1_2 : FK 1 (19, 1, 3, 0, 306) := ⟨Nat.le_of_ble_eq_true rfl, Nat.le_of_ble_eq_true rfl, mt_1 (i := 195) rfl, rfl, rfl⟩
set_option maxRecDepth 20000 in
theorem fk_1_3 : FK 1 (23, 1, 4, 2, 307) := ⟨Nat.le_of_ble_eq_true rfl, Nat.le_of_ble_eq_true rfl, mt_1 (i := 196) rfl, rfl, rfl⟩
set_option maxRecDepth 20000 in
theorem fk_1_4 : FK 1 (26, 1, 5, 2, 309) := ⟨Nat.le_of_ble_eq_true rfl, Nat.le_of_ble_eq_true rfl, mt_1 (i := 198) rfl, rfl, rfl⟩
set_option maxRecDepth 20000 in
theorem fk_1_5 : FK 1 (29, 1, 6, 2, 311) := ⟨Nat.le_of_ble_eq_true rfl, Nat.le_of_ble_eq_true rfl, mt_1 (i := 200) rfl, rfl, rfl⟩
set_option maxRecDepth 20000 in
theorem fk_1_6 : FK 1 (32, 1, 7, 0, 313) := ⟨Nat.le_of_ble_eq_true rfl, Nat.le_of_ble_eq_true rfl, mt_1 (i := 202) rfl, rfl, rfl⟩
set_option maxRecDepth 20000 in
theorem fk_1_7 : FK 1 (35, 1, 0, 2, 303) := ⟨Nat.le_of_ble_eq_true rfl, Nat.le_of_ble_eq_true rfl, mt_1 (i := 192) rfl, rfl, rfl⟩
set_option maxRecDepth 20000 in
theorem fk_1_8 : FK 1 (39, 3, 7, 2, 242) := ⟨Nat.le_of_ble_eq_true rfl, Nat.le_of_ble_eq_true rfl, mt_1 (i := 131) rfl, rfl, rfl⟩
set_option maxRecDepth 20000 in
theorem fk_1_9 : FK 1 (42, 3, 11, 0, 252) := ⟨Nat.le_of_ble_eq_true rfl, Nat.le_of_ble_eq_true rfl, mt_1 (i := 141) rfl, rfl, rfl⟩
set_option maxRecDepth 20000 in
theorem fk_1_10 : FK 1 (52, 3, 8, 2, 245) := ⟨Nat.le_of_ble_eq_true rfl, Nat.le_of_ble_eq_true rfl, mt_1 (i := 134) rfl, rfl, rfl⟩
set_option maxRecDepth 20000 in
theorem fk_1_11 : FK 1 (53, 3, 1, 2, 221) := ⟨Nat.le_of_ble_eq_true rfl, Nat.le_of_ble_eq_true rfl, mt_1 (i := 110) rfl, rfl, rfl⟩
set_option maxRecDepth 20000 in
theorem fk_1 : ∀ e ∈ fTL.getD 1 [], FK 1 e := List.forall_mem_cons.mpr ⟨fk_1_0, List.forall_mem_cons.mpr ⟨fk_1_1, List.forall_mem_cons.mpr ⟨fk_1_2, List.forall_mem_cons.mpr ⟨fk_1_3, List.forall_mem_cons.mpr ⟨fk_1_4, List.forall_mem_cons.mpr ⟨fk_1_5, List.forall_mem_cons.mpr ⟨fk_1_6, List.forall_mem_cons.mpr ⟨fk_1_7, List.forall_mem_cons.mpr ⟨fk_1_8, List.forall_mem_cons.mpr ⟨fk_1_9, List.forall_mem_cons.mpr ⟨fk_1_10, List.forall_mem_cons.mpr ⟨fk_1_11, fun _ h => absurd h List.not_mem_nil⟩⟩⟩⟩⟩⟩⟩⟩⟩⟩⟩⟩
set_option maxRecDepth 20000 in
theorem fk_2_0 : FK 2 (9, 2, 0, 2, 151) := ⟨Nat.le_of_ble_eq_true rfl, Nat.le_of_ble_eq_true rfl, mt_1 (i := 40) rfl, rfl, rfl⟩
set_option maxRecDepth 20000 in
theorem fk_2_1 : FK 2 (15, 2, 1, 0, 152) := ⟨Nat.le_of_ble_eq_true rfl, Nat.le_of_ble_eq_true rfl, mt_1 (i := 41) rfl, rfl, rfl⟩
set_option maxRecDepth 20000 in
theorem fk_2_2 : FK 2 (19, 2, 2, 0, 154) := ⟨Nat.le_of_ble_eq_true rfl, Nat.le_of_ble_eq_true rfl, mt_1 (i := 43) rfl, rfl, rfl⟩
set_option maxRecDepth 20000 in
theorem fk_2_3 : FK 2 (22, 2, 3, 0, 157) := ⟨Nat.le_of_ble_eq_true rfl, Nat.le_of_ble_eq_true rfl, mt_1 (i := 46) rfl, rfl, rfl⟩
set_option maxRecDepth 20000 in
theorem fk_2_4 : FK 2 (25, 2, 4, 0, 158) := ⟨Nat.le_of_ble_eq_true rfl, Nat.le_of_ble_eq_true rfl, mt_1 (i := 47) rfl, rfl, rfl⟩
set_option maxRecDepth 20000 in
theorem fk_2_5 : FK 2 (28, 2, 5, 0, 159) := ⟨Nat.le_of_ble_eq_true rfl, Nat.le_of_ble_eq_true rfl, mt_1 (i := 48) rfl, rfl, rfl⟩
set_option maxRecDepth 20000 in
theorem fk_2_6 : FK 2 (31, 2, 6, 0, 160) := ⟨Nat.le_of_ble_eq_true rfl, Nat.le_of_ble_eq_true rfl, mt_1 (i := 49) rfl, rfl, rfl⟩
set_option maxRecDepth 20000 in
theorem fk_2_7 : FK 2 (34, 2, 7, 0, 162) := ⟨Nat.le_of_ble_eq_true rfl, Nat.le_of_ble_eq_true rfl, mt_1 (i := 51) rfl, rfl, rfl⟩
set_option maxRecDepth 20000 in
theorem fk_2 : ∀ e ∈ fTL.getD 2 [], FK 2 e := List.forall_mem_cons.mpr ⟨fk_2_0, List.forall_mem_cons.mpr ⟨fk_2_1, List.forall_mem_cons.mpr ⟨fk_2_2, List.forall_mem_cons.mpr ⟨fk_2_3, List.forall_mem_cons.mpr ⟨fk_2_4, List.forall_mem_cons.mpr ⟨fk_2_5, List.forall_mem_cons.mpr ⟨fk_2_6, List.forall_mem_cons.mpr ⟨fk_2_7, fun _ h => absurd h List.not_mem_nil⟩⟩⟩⟩⟩⟩⟩⟩
set_option maxRecDepth 20000 in
theorem fk_3_0 : FK 3 (12, 3, 0, 2, 214) := ⟨Nat.le_of_ble_eq_true rfl, Nat.le_of_ble_eq_true rfl, mt_1 (i := 103) rfl, rfl, rfl⟩
set_option maxRecDepth 20000 in
theorem fk_3_1 : FK 3 (18, 3, 1, 2, 220) := ⟨Nat.le_of_ble_eq_true rfl, Nat.le_of_ble_eq_true rfl, mt_1 (i := 109) rfl, rfl, rfl⟩
set_option maxRecDepth 20000 in
theorem fk_3_2 : FK 3 (22, 3, 2, 2, 224) := ⟨Nat.le_of_ble_eq_true rfl, Nat.le_of_ble_eq_true rfl, mt_1 (i := 113) rfl, rfl, rfl⟩
set_option maxRecDepth 20000 in
theorem fk_3_3 : FK 3 (25, 3, 3, 2, 227) := ⟨Nat.le_of_ble_eq_true rfl, Nat.le_of_ble_eq_true rfl, mt_1 (i := 116) rfl, rfl, rfl⟩
set_option maxRecDepth 20000 in
theorem fk_3_4 : FK 3 (28, 3, 4, 2, 232) := ⟨Nat.le_of_ble_eq_true rfl, Nat.le_of_ble_eq_true rfl, mt_1 (i := 121) rfl, rfl, rfl⟩
set_option maxRecDepth 20000 in
theorem fk_3_5 : FK 3 (31, 3, 5, 2, 236) := ⟨Nat.le_of_ble_eq_true rfl, Nat.le_of_ble_eq_true rfl, mt_1 (i := 125) rfl, rfl, rfl⟩
set_option maxRecDepth 20000 in
theorem fk_3_6 : FK 3 (34, 3, 6, 2, 238) := ⟨Nat.le_of_ble_eq_true rfl, Nat.le_of_ble_eq_true rfl, mt_1 (i := 127) rfl, rfl, rfl⟩
set_option maxRecDepth 20000 in
theorem fk_3_7 : FK 3 (37, 3, 7, 2, 241) := ⟨Nat.le_of_ble_eq_true rfl, Nat.le_of_ble_eq_true rfl, mt_1 (i := 130) rfl, rfl, rfl⟩
set_option maxRecDepth 20000 in
theorem fk_3_8 : FK 3 (40, 3, 8, 2, 244) := ⟨Nat.le_of_ble_eq_true rfl, Nat.le_of_ble_eq_true rfl, mt_1 (i := 133) rfl, rfl, rfl⟩
set_option maxRecDepth 20000 in
theorem fk_3_9 : FK 3 (43, 3, 9, 2, 247) := ⟨Nat.le_of_ble_eq_true rfl, Nat.le_of_ble_eq_true rfl, mt_1 (i := 136) rfl, rfl, rfl⟩
set_option maxRecDepth 20000 in
theorem fk_3_10 : FK 3 (46, 3, 10, 2, 249) := ⟨Nat.le_of_ble_eq_true rfl, Nat.le_of_ble_eq_true rfl, mt_1 (i := 138) rfl, rfl, rfl⟩
set_option maxRecDepth 20000 in
theorem fk_3_11 : FK 3 (49, 3, 11, 0, 251) := ⟨Nat.le_of_ble_eq_true rfl, Nat.le_of_ble_eq_true rfl, mt_1 (i := 140) rfl, rfl, rfl⟩
set_option maxRecDepth 20000 in
theorem fk_3_12 : FK 3 (53, 3, 12, 0, 255) := ⟨Nat.le_of_ble_eq_true rfl, Nat.le_of_ble_eq_true rfl, mt_1 (i := 144) rfl, rfl, rfl⟩
set_option maxRecDepth 20000 in
theorem fk_3_13 : FK 3 (56, 3, 13, 0, 258) := ⟨Nat.le_of_ble_eq_true rfl, Nat.le_of_ble_eq_true rfl, mt_1 (i := 147) rfl, rfl, rfl⟩
set_option maxRecDepth 20000 in
theorem fk_3_14 : FK 3 (59, 3, 14, 0, 259) := ⟨Nat.le_of_ble_eq_true rfl, Nat.le_of_ble_eq_true rfl, mt_1 (i := 148) rfl, rfl, rfl⟩
set_option maxRecDepth 20000 in
theorem fk_3_15 : FK 3 (81, 8, 4, 0, 201) := ⟨Nat.le_of_ble_eq_true rfl, Nat.le_of_ble_eq_true rfl, mt_1 (i := 90) rfl, rfl, rfl⟩
set_option maxRecDepth 20000 in
theorem fk_3 : ∀ e ∈ fTL.getD 3 [], FK 3 e := List.forall_mem_cons.mpr ⟨fk_3_0, List.forall_mem_cons.mpr ⟨fk_3_1, List.forall_mem_cons.mpr ⟨fk_3_2, List.forall_mem_cons.mpr ⟨fk_3_3, List.forall_mem_cons.mpr ⟨fk_3_4, List.forall_mem_cons.mpr ⟨fk_3_5, List.forall_mem_cons.mpr ⟨fk_3_6, List.forall_mem_cons.mpr ⟨fk_3_7, List.forall_mem_cons.mpr ⟨fk_3_8, List.forall_mem_cons.mpr ⟨fk_3_9, List.forall_mem_cons.mpr ⟨fk_3_10, List.forall_mem_cons.mpr ⟨fk_3_11, List.forall_mem_cons.mpr ⟨fk_3_12, List.forall_mem_cons.mpr ⟨fk_3_13, List.forall_mem_cons.mpr ⟨fk_3_14, List.forall_mem_cons.mpr ⟨fk_3_15, fun _ h => absurd h List.not_mem_nil⟩⟩⟩⟩⟩⟩⟩⟩⟩⟩⟩⟩⟩⟩⟩⟩
set_option maxRecDepth 20000 in
theorem fk_4_0 : FK 4 (11, 4, 0, 2, 460) := ⟨Nat.le_of_ble_eq_true rfl, Nat.le_of_ble_eq_true rfl, mt_2 (i := 109) rfl, rfl, rfl⟩
set_option maxRecDepth 20000 in
theorem fk_4_1 : FK 4 (17, 4, 1, 0, 461) := ⟨Nat.le_of_ble_eq_true rfl, Nat.le_of_ble_eq_true rfl, mt_2 (i := 110) rfl, rfl, rfl⟩
set_option maxRecDepth 20000 in
theorem fk_4_2 : FK 4 (21, 4, 2, 0, 462) := ⟨Nat.le_of_ble_eq_true rfl, Nat.le_of_ble_eq_true rfl, mt_2 (i := 111) rfl, rfl, rfl⟩
set_option maxRecDepth 20000 in
theorem fk_4 : ∀ e ∈ fTL.getD 4 [], FK 4 e := List.forall_mem_cons.mpr ⟨fk_4_0, List.forall_mem_cons.mpr ⟨fk_4_1, List.forall_mem_cons.mpr ⟨fk_4_2, fun _ h => absurd h List.not_mem_nil⟩⟩⟩
set_option maxRecDepth 20000 in
theorem fk_5_0 : FK 5 (9, 5, 1, 2, 408) := ⟨Nat.le_of_ble_eq_true rfl, Nat.le_of_ble_eq_true rfl, mt_2 (i := 57) rfl, rfl, rfl⟩
set_option maxRecDepth 20000 in
theorem fk_5_1 : FK 5 (15, 5, 2, 2, 409) := ⟨Nat.le_of_ble_eq_true rfl, Nat.le_of_ble_eq_true rfl, mt_2 (i := 58) rfl, rfl, rfl⟩
set_option maxRecDepth 20000 in
theorem fk_5_2 : FK 5 (18, 5, 3, 2, 410) := ⟨Nat.le_of_ble_eq_true rfl, Nat.le_of_ble_eq_true rfl, mt_2 (i := 59) rfl, rfl, rfl⟩
set_option maxRecDepth 20000 in
theorem fk_5_3 : FK 5 (22, 5, 4, 0, 412) := ⟨Nat.le_of_ble_eq_true rfl, Nat.le_of_ble_eq_true rfl, mt_2 (i := 61) rfl, rfl, rfl⟩
set_option maxRecDepth 20000 in
theorem fk_5_4 : FK 5 (26, 5, 0, 2, 407) := ⟨Nat.le_of_ble_eq_true rfl, Nat.le_of_ble_eq_true rfl, mt_2 (i := 56) rfl, rfl, rfl⟩
set_option maxRecDepth 20000 in
theorem fk_5_5 : FK 5 (43, 3, 3, 2, 228) := ⟨Nat.le_of_ble_eq_true rfl, Nat.le_of_ble_eq_true rfl, mt_1 (i := 117) rfl, rfl, rfl⟩
set_option maxRecDepth 20000 in
theorem fk_5_6 : FK 5 (46, 3, 6, 2, 239) := ⟨Nat.le_of_ble_eq_true rfl, Nat.le_of_ble_eq_true rfl, mt_1 (i := 128) rfl, rfl, rfl⟩
set_option maxRecDepth 20000 in
theorem fk_5_7 : FK 5 (49, 3, 4, 2, 234) := ⟨Nat.le_of_ble_eq_true rfl, Nat.le_of_ble_eq_true rfl, mt_1 (i := 123) rfl, rfl, rfl⟩
set_option maxRecDepth 20000 in
theorem fk_5_8 : FK 5 (52, 3, 0, 2, 217) := ⟨Nat.le_of_ble_eq_true rfl, Nat.le_of_ble_eq_true rfl, mt_1 (i := 106) rfl, rfl, rfl⟩
set_option maxRecDepth 20000 in
theorem fk_5 : ∀ e ∈ fTL.getD 5 [], FK 5 e := List.forall_mem_cons.mpr ⟨fk_5_0, List.forall_mem_cons.mpr ⟨fk_5_1, List.forall_mem_cons.mpr ⟨fk_5_2, List.forall_mem_cons.mpr ⟨fk_5_3, List.forall_mem_cons.mpr ⟨fk_5_4, List.forall_mem_cons.mpr ⟨fk_5_5, List.forall_mem_cons.mpr ⟨fk_5_6, List.forall_mem_cons.mpr ⟨fk_5_7, List.forall_mem_cons.mpr ⟨fk_5_8, fun _ h => absurd h List.not_mem_nil⟩⟩⟩⟩⟩⟩⟩⟩⟩
set_option maxRecDepth 20000 in
theorem fk_6_0 : FK 6 (9, 6, 0, 2, 435) := ⟨Nat.le_of_ble_eq_true rfl, Nat.le_of_ble_eq_true rfl, mt_2 (i := 84) rfl, rfl, rfl⟩
set_option maxRecDepth 20000 in
theorem fk_6_1 : FK 6 (15, 6, 1, 2, 436) := ⟨Nat.le_of_ble_eq_true rfl, Nat.le_of_ble_eq_true rfl, mt_2 (i := 85) rfl, rfl, rfl⟩
set_option maxRecDepth 20000 in
theorem fk_6_2 : FK 6 (19, 3, 0, 2, 215) := ⟨Nat.le_of_ble_eq_true rfl, Nat.le_of_ble_eq_true rfl, mt_1 (i := 104) rfl, rfl, rfl⟩
set_option maxRecDepth 20000 in
theorem fk_6_3 : FK 6 (25, 6, 2, 2, 437) := ⟨Nat.le_of_ble_eq_true rfl, Nat.le_of_ble_eq_true rfl, mt_2 (i := 86) rfl, rfl, rfl⟩
set_option maxRecDepth 20000 in
theorem fk_6_4 : FK 6 (31, 6, 3, 2, 438) := ⟨Nat.le_of_ble_eq_true rfl, Nat.le_of_ble_eq_true rfl, mt_2 (i := 87) rfl, rfl, rfl⟩
set_option maxRecDepth 20000 in
theorem fk_6_5 : FK 6 (38, 6, 4, 2, 439) := ⟨Nat.le_of_ble_eq_true rfl, Nat.le_of_ble_eq_true rfl, mt_2 (i := 88) rfl, rfl, rfl⟩
set_option maxRecDepth 20000 in
theorem fk_6_6 : FK 6 (42, 8, 4, 0, 199) := ⟨Nat.le_of_ble_eq_true rfl, Nat.le_of_ble_eq_true rfl, mt_1 (i := 88) rfl, rfl, rfl⟩
set_option maxRecDepth 20000 in
theorem fk_6_7 : FK 6 (102, 2, 2, 0, 156) := ⟨Nat.le_of_ble_eq_true rfl, Nat.le_of_ble_eq_true rfl, mt_1 (i := 45) rfl, rfl, rfl⟩
set_option maxRecDepth 20000 in
theorem fk_6_8 : FK 6 (141, 9, 1, 0, 362) := ⟨Nat.le_of_ble_eq_true rfl, Nat.le_of_ble_eq_true rfl, mt_2 (i := 11) rfl, rfl, rfl⟩
set_option maxRecDepth 20000 in
theorem fk_6_9 : FK 6 (144, 9, 2, 0, 366) := ⟨Nat.le_of_ble_eq_true rfl, Nat.le_of_ble_eq_true rfl, mt_2 (i := 15) rfl, rfl, rfl⟩
set_option maxRecDepth 20000 in
theorem fk_6 : ∀ e ∈ fTL.getD 6 [], FK 6 e := List.forall_mem_cons.mpr ⟨fk_6_0, List.forall_mem_cons.mpr ⟨fk_6_1, List.forall_mem_cons.mpr ⟨fk_6_2, List.forall_mem_cons.mpr ⟨fk_6_3, List.forall_mem_cons.mpr ⟨fk_6_4, List.forall_mem_cons.mpr ⟨fk_6_5, List.forall_mem_cons.mpr ⟨fk_6_6, List.forall_mem_cons.mpr ⟨fk_6_7, List.forall_mem_cons.mpr ⟨fk_6_8, List.forall_mem_cons.mpr ⟨fk_6_9, fun _ h => absurd h List.not_mem_nil⟩⟩⟩⟩⟩⟩⟩⟩⟩⟩
set_option maxRecDepth 20000 in
theorem fk_7_0 : FK 7 (9, 7, 2, 2, 387) := ⟨Nat.le_of_ble_eq_true rfl, Nat.le_of_ble_eq_true rfl, mt_2 (i := 36) rfl, rfl, rfl⟩
set_option maxRecDepth 20000 in
theorem fk_7_1 : FK 7 (15, 7, 3, 2, 388) := ⟨Nat.le_of_ble_eq_true rfl, Nat.le_of_ble_eq_true rfl, mt_2 (i := 37) rfl, rfl, rfl⟩
set_option maxRecDepth 20000 in
theorem fk_7_2 : FK 7 (18, 7, 4, 0, 389) := ⟨Nat.le_of_ble_eq_true rfl, Nat.le_of_ble_eq_true rfl, mt_2 (i := 38) rfl, rfl, rfl⟩
set_option maxRecDepth 20000 in
theorem fk_7_3 : FK 7 (22, 7, 0, 2, 385) := ⟨Nat.le_of_ble_eq_true rfl, Nat.le_of_ble_eq_true rfl, mt_2 (i := 34) rfl, rfl, rfl⟩
set_option maxRecDepth 20000 in
theorem fk_7_4 : FK 7 (31, 7, 1, 2, 386) := ⟨Nat.le_of_ble_eq_true rfl, Nat.le_of_ble_eq_true rfl, mt_2 (i := 35) rfl, rfl, rfl⟩
set_option maxRecDepth 20000 in
theorem fk_7_5 : FK 7 (46, 9, 1, 0, 361) := ⟨Nat.le_of_ble_eq_true rfl, Nat.le_of_ble_eq_true rfl, mt_2 (i := 10) rfl, rfl, rfl⟩
set_option maxRecDepth 20000 in
theorem fk_7_6 : FK 7 (49, 9, 2, 0, 365) := ⟨Nat.le_of_ble_eq_true rfl, Nat.le_of_ble_eq_true rfl, mt_2 (i := 14) rfl, rfl, rfl⟩
set_option maxRecDepth 20000 in
theorem fk_7_7 : FK 7 (52, 3, 3, 2, 230) := ⟨Nat.le_of_ble_eq_true rfl, Nat.le_of_ble_eq_true rfl, mt_1 (i := 119) rfl, rfl, rfl⟩
set_option maxRecDepth 20000 in
theorem fk_7_8 : FK 7 (57, 3, 0, 2, 218) := ⟨Nat.le_of_ble_eq_true rfl, Nat.le_of_ble_eq_true rfl, mt_1 (i := 107) rfl, rfl, rfl⟩
set_option maxRecDepth 20000 in
theorem fk_7 : ∀ e ∈ fTL.getD 7 [], FK 7 e := List.forall_mem_cons.mpr ⟨fk_7_0, List.forall_mem_cons.mpr ⟨fk_7_1, List.forall_mem_cons.mpr ⟨fk_7_2, List.forall_mem_cons.mpr ⟨fk_7_3, List.forall_mem_cons.mpr ⟨fk_7_4, List.forall_mem_cons.mpr ⟨fk_7_5, List.forall_mem_cons.mpr ⟨fk_7_6, List.forall_mem_cons.mpr ⟨fk_7_7, List.forall_mem_cons.mpr ⟨fk_7_8, fun _ h => absurd h List.not_mem_nil⟩⟩⟩⟩⟩⟩⟩⟩⟩
set_option maxRecDepth 20000 in
theorem fk_8_0 : FK 8 (9, 8, 0, 2, 194) := ⟨Nat.le_of_ble_eq_true rfl, Nat.le_of_ble_eq_true rfl, mt_1 (i := 83) rfl, rfl, rfl⟩
set_option maxRecDepth 20000 in
theorem fk_8_1 : FK 8 (15, 8, 1, 2, 195) := ⟨Nat.le_of_ble_eq_true rfl, Nat.le_of_ble_eq_true rfl, mt_1 (i := 84) rfl, rfl, rfl⟩
set_option maxRecDepth 20000 in
theorem fk_8_2 : FK 8 (18, 8, 2, 2, 196) := ⟨Nat.le_of_ble_eq_true rfl, Nat.le_of_ble_eq_true rfl, mt_1 (i := 85) rfl, rfl, rfl⟩
set_option maxRecDepth 20000 in
theorem fk_8_3 : FK 8 (21, 8, 3, 2, 197) := ⟨Nat.le_of_ble_eq_true rfl, Nat.le_of_ble_eq_true rfl, mt_1 (i := 86) rfl, rfl, rfl⟩
set_option maxRecDepth 20000 in
theorem fk_8_4 : FK 8 (24, 8, 4, 0, 198) := ⟨Nat.le_of_ble_eq_true rfl, Nat.le_of_ble_eq_true rfl, mt_1 (i := 87) rfl, rfl, rfl⟩
set_option maxRecDepth 20000 in
theorem fk_8 : ∀ e ∈ fTL.getD 8 [], FK 8 e := List.forall_mem_cons.mpr ⟨fk_8_0, List.forall_mem_cons.mpr ⟨fk_8_1, List.forall_mem_cons.mpr ⟨fk_8_2, List.forall_mem_cons.mpr ⟨fk_8_3, List.forall_mem_cons.mpr ⟨fk_8_4, fun _ h => absurd h List.not_mem_nil⟩⟩⟩⟩⟩
set_option maxRecDepth 20000 in
theorem fk_9_0 : FK 9 (9, 9, 1, 0, 360) := ⟨Nat.le_of_ble_eq_true rfl, Nat.le_of_ble_eq_true rfl, mt_2 (i := 9) rfl, rfl, rfl⟩
set_option maxRecDepth 20000 in
theorem fk_9_1 : FK 9 (15, 9, 2, 0, 364) := ⟨Nat.le_of_ble_eq_true rfl, Nat.le_of_ble_eq_true rfl, mt_2 (i := 13) rfl, rfl, rfl⟩
set_option maxRecDepth 20000 in
theorem fk_9_2 : FK 9 (18, 9, 0, 2, 359) := ⟨Nat.le_of_ble_eq_true rfl, Nat.le_of_ble_eq_true rfl, mt_2 (i := 8) rfl, rfl, rfl⟩
set_option maxRecDepth 20000 in
theorem fk_9_3 : FK 9 (28, 3, 4, 2, 233) := ⟨Nat.le_of_ble_eq_true rfl, Nat.le_of_ble_eq_true rfl, mt_1 (i := 122) rfl, rfl, rfl⟩
set_option maxRecDepth 20000 in
theorem fk_9_4 : FK 9 (50, 2, 2, 0, 155) := ⟨Nat.le_of_ble_eq_true rfl, Nat.le_of_ble_eq_true rfl, mt_1 (i := 44) rfl, rfl, rfl⟩
set_option maxRecDepth 20000 in
theorem fk_9_5 : FK 9 (67, 3, 0, 2, 219) := ⟨Nat.le_of_ble_eq_true rfl, Nat.le_of_ble_eq_true rfl, mt_1 (i := 108) rfl, rfl, rfl⟩
set_option maxRecDepth 20000 in
theorem fk_9_6 : FK 9 (71, 3, 3, 2, 231) := ⟨Nat.le_of_ble_eq_true rfl, Nat.le_of_ble_eq_true rfl, mt_1 (i := 120) rfl, rfl, rfl⟩
set_option maxRecDepth 20000 in
theorem fk_9 : ∀ e ∈ fTL.getD 9 [], FK 9 e := List.forall_mem_cons.mpr ⟨fk_9_0, List.forall_mem_cons.mpr ⟨fk_9_1, List.forall_mem_cons.mpr ⟨fk_9_2, List.forall_mem_cons.mpr ⟨fk_9_3, List.forall_mem_cons.mpr ⟨fk_9_4, List.forall_mem_cons.mpr ⟨fk_9_5, List.forall_mem_cons.mpr ⟨fk_9_6, fun _ h => absurd h List.not_mem_nil⟩⟩⟩⟩⟩⟩⟩
set_option maxRecDepth 20000 in
theorem fk_10_0 : FK 10 (12, 10, 0, 2, 487) := ⟨Nat.le_of_ble_eq_true rfl, Nat.le_of_ble_eq_true rfl, mt_2 (i := 136) rfl, rfl, rfl⟩
set_option maxRecDepth 20000 in
theorem fk_10_1 : FK 10 (16, 10, 1, 0, 488) := ⟨Nat.le_of_ble_eq_true rfl, Nat.le_of_ble_eq_true rfl, mt_2 (i := 137) rfl, rfl, rfl⟩
set_option maxRecDepth 20000 in
theorem fk_10_2 : FK 10 (23, 10, 2, 2, 489) := ⟨Nat.le_of_ble_eq_true rfl, Nat.le_of_ble_eq_true rfl, mt_2 (i := 138) rfl, rfl, rfl⟩
set_option maxRecDepth 20000 in
theorem fk_10_3 : FK 10 (32, 10, 3, 2, 490) := ⟨Nat.le_of_ble_eq_true rfl, Nat.le_of_ble_eq_true rfl, mt_2 (i := 139) rfl, rfl, rfl⟩
set_option maxRecDepth 20000 in
theorem fk_10_4 : FK 10 (39, 10, 4, 2, 491) := ⟨Nat.le_of_ble_eq_true rfl, Nat.le_of_ble_eq_true rfl, mt_2 (i := 140) rfl, rfl, rfl⟩
set_option maxRecDepth 20000 in
theorem fk_10_5 : FK 10 (46, 10, 5, 2, 492) := ⟨Nat.le_of_ble_eq_true rfl, Nat.le_of_ble_eq_true rfl, mt_2 (i := 141) rfl, rfl, rfl⟩
set_option maxRecDepth 20000 in
theorem fk_10_6 : FK 10 (53, 10, 6, 2, 493) := ⟨Nat.le_of_ble_eq_true rfl, Nat.le_of_ble_eq_true rfl, mt_2 (i := 142) rfl, rfl, rfl⟩
set_option maxRecDepth 20000 in
theorem fk_10_7 : FK 10 (60, 10, 7, 2, 494) := ⟨Nat.le_of_ble_eq_true rfl, Nat.le_of_ble_eq_true rfl, mt_2 (i := 143) rfl, rfl, rfl⟩
set_option maxRecDepth 20000 in
theorem fk_10_8 : FK 10 (64, 10, 8, 2, 495) := ⟨Nat.le_of_ble_eq_true rfl, Nat.le_of_ble_eq_true rfl, mt_2 (i := 144) rfl, rfl, rfl⟩
set_option maxRecDepth 20000 in
theorem fk_10_9 : FK 10 (72, 10, 9, 2, 496) := ⟨Nat.le_of_ble_eq_true rfl, Nat.le_of_ble_eq_true rfl, mt_2 (i := 145) rfl, rfl, rfl⟩
set_option maxRecDepth 20000 in
theorem fk_10_10 : FK 10 (79, 10, 10, 2, 497) := ⟨Nat.le_of_ble_eq_true rfl, Nat.le_of_ble_eq_true rfl, mt_2 (i := 146) rfl, rfl, rfl⟩
set_option maxRecDepth 20000 in
theorem fk_10_11 : FK 10 (83, 3, 0, 2, 216) := ⟨Nat.le_of_ble_eq_true rfl, Nat.le_of_ble_eq_true rfl, mt_1 (i := 105) rfl, rfl, rfl⟩
set_option maxRecDepth 20000 in
theorem fk_10_12 : FK 10 (103, 2, 1, 0, 153) := ⟨Nat.le_of_ble_eq_true rfl, Nat.le_of_ble_eq_true rfl, mt_1 (i := 42) rfl, rfl, rfl⟩
set_option maxRecDepth 20000 in
theorem fk_10_13 : FK 10 (119, 2, 7, 0, 163) := ⟨Nat.le_of_ble_eq_true rfl, Nat.le_of_ble_eq_true rfl, mt_1 (i := 52) rfl, rfl, rfl⟩
set_option maxRecDepth 20000 in
theorem fk_10_14 : FK 10 (120, 2, 6, 0, 161) := ⟨Nat.le_of_ble_eq_true rfl, Nat.le_of_ble_eq_true rfl, mt_1 (i := 50) rfl, rfl, rfl⟩
set_option maxRecDepth 20000 in
theorem fk_10_15 : FK 10 (129, 3, 11, 0, 254) := ⟨Nat.le_of_ble_eq_true rfl, Nat.le_of_ble_eq_true rfl, mt_1 (i := 143) rfl, rfl, rfl⟩
set_option maxRecDepth 20000 in
theorem fk_10_16 : FK 10 (160, 8, 4, 0, 200) := ⟨Nat.le_of_ble_eq_true rfl, Nat.le_of_ble_eq_true rfl, mt_1 (i := 89) rfl, rfl, rfl⟩
set_option maxRecDepth 20000 in
theorem fk_10_17 : FK 10 (187, 3, 1, 2, 223) := ⟨Nat.le_of_ble_eq_true rfl, Nat.le_of_ble_eq_true rfl, mt_1 (i := 112) rfl, rfl, rfl⟩
set_option maxRecDepth 20000 in
theorem fk_10_18 : FK 10 (207, 9, 1, 0, 363) := ⟨Nat.le_of_ble_eq_true rfl, Nat.le_of_ble_eq_true rfl, mt_2 (i := 12) rfl, rfl, rfl⟩
set_option maxRecDepth 20000 in
theorem fk_10_19 : FK 10 (210, 9, 2, 0, 367) := ⟨Nat.le_of_ble_eq_true rfl, Nat.le_of_ble_eq_true rfl, mt_2 (i := 16) rfl, rfl, rfl⟩
set_option maxRecDepth 20000 in
theorem fk_10_20 : FK 10 (213, 3, 12, 0, 256) := ⟨Nat.le_of_ble_eq_true rfl, Nat.le_of_ble_eq_true rfl, mt_1 (i := 145) rfl, rfl, rfl⟩
set_option maxRecDepth 20000 in
theorem fk_10_21 : FK 10 (221, 3, 2, 2, 226) := ⟨Nat.le_of_ble_eq_true rfl, Nat.le_of_ble_eq_true rfl, mt_1 (i := 115) rfl, rfl, rfl⟩
set_option maxRecDepth 20000 in
theorem fk_10_22 : FK 10 (230, 1, 7, 0, 315) := ⟨Nat.le_of_ble_eq_true rfl, Nat.le_of_ble_eq_true rfl, mt_1 (i := 204) rfl, rfl, rfl⟩
set_option maxRecDepth 20000 in
theorem fk_10_23 : FK 10 (238, 5, 4, 0, 413) := ⟨Nat.le_of_ble_eq_true rfl, Nat.le_of_ble_eq_true rfl, mt_2 (i := 62) rfl, rfl, rfl⟩
set_option maxRecDepth 20000 in
theorem fk_10_24 : FK 10 (243, 5, 3, 2, 411) := ⟨Nat.le_of_ble_eq_true rfl, Nat.le_of_ble_eq_true rfl, mt_2 (i := 60) rfl, rfl, rfl⟩
set_option maxRecDepth 20000 in
theorem fk_10_25 : FK 10 (278, 4, 2, 0, 463) := ⟨Nat.le_of_ble_eq_true rfl, Nat.le_of_ble_eq_true rfl, mt_2 (i := 112) rfl, rfl, rfl⟩
set_option maxRecDepth 20000 in
theorem fk_10 : ∀ e ∈ fTL.getD 10 [], FK 10 e := List.forall_mem_cons.mpr ⟨fk_10_0, List.forall_mem_cons.mpr ⟨fk_10_1, List.forall_mem_cons.mpr ⟨fk_10_2, List.forall_mem_cons.mpr ⟨fk_10_3, List.forall_mem_cons.mpr ⟨fk_10_4, List.forall_mem_cons.mpr ⟨fk_10_5, List.forall_mem_cons.mpr ⟨fk_10_6, List.forall_mem_cons.mpr ⟨fk_10_7, List.forall_mem_cons.mpr ⟨fk_10_8, List.forall_mem_cons.mpr ⟨fk_10_9, List.forall_mem_cons.mpr ⟨fk_10_10, List.forall_mem_cons.mpr ⟨fk_10_11, List.forall_mem_cons.mpr ⟨fk_10_12, List.forall_mem_cons.mpr ⟨fk_10_13, List.forall_mem_cons.mpr ⟨fk_10_14, List.forall_mem_cons.mpr ⟨fk_10_15, List.forall_mem_cons.mpr ⟨fk_10_16, List.forall_mem_cons.mpr ⟨fk_10_17, List.forall_mem_cons.mpr ⟨fk_10_18, List.forall_mem_cons.mpr ⟨fk_10_19, List.forall_mem_cons.mpr ⟨fk_10_20, List.forall_mem_cons.mpr ⟨fk_10_21, List.forall_mem_cons.mpr ⟨fk_10_22, List.forall_mem_cons.mpr ⟨fk_10_23, List.forall_mem_cons.mpr ⟨fk_10_24, List.forall_mem_cons.mpr ⟨fk_10_25, fun _ h => absurd h List.not_mem_nil⟩⟩⟩⟩⟩⟩⟩⟩⟩⟩⟩⟩⟩⟩⟩⟩⟩⟩⟩⟩⟩⟩⟩⟩⟩⟩
set_option maxRecDepth 20000 in
theorem fk_11_0 : FK 11 (7, 11, 1, 2, 1298) := ⟨Nat.le_of_ble_eq_true rfl, Nat.le_of_ble_eq_true rfl, mt_5 (i := 227) rfl, rfl, rfl⟩
set_option maxRecDepth 20000 in
theorem fk_11_1 : FK 11 (13, 11, 4, 2, 1301) := ⟨Nat.le_of_ble_eq_true rfl, Nat.le_of_ble_eq_true rfl, mt_5 (i := 230) rfl, rfl, rfl⟩
set_option maxRecDepth 20000 in
theorem fk_11_2 : FK 11 (17, 11, 5, 2, 1302) := ⟨Nat.le_of_ble_eq_true rfl, Nat.le_of_ble_eq_true rfl, mt_5 (i := 231) rfl, rfl, rfl⟩
set_option maxRecDepth 20000 in
theorem fk_11_3 : FK 11 (20, 11, 6, 2, 1303) := ⟨Nat.le_of_ble_eq_true rfl, Nat.le_of_ble_eq_true rfl, mt_5 (i := 232) rfl, rfl, rfl⟩
set_option maxRecDepth 20000 in
theorem fk_11_4 : FK 11 (23, 11, 7, 2, 1304) := ⟨Nat.le_of_ble_eq_true rfl, Nat.le_of_ble_eq_true rfl, mt_5 (i := 233) rfl, rfl, rfl⟩
set_option maxRecDepth 20000 in
theorem fk_11_5 : FK 11 (26, 11, 9, 2, 1306) := ⟨Nat.le_of_ble_eq_true rfl, Nat.le_of_ble_eq_true rfl, mt_5 (i := 235) rfl, rfl, rfl⟩
set_option maxRecDepth 20000 in
theorem fk_11_6 : FK 11 (29, 11, 10, 2, 1307) := ⟨Nat.le_of_ble_eq_true rfl, Nat.le_of_ble_eq_true rfl, mt_5 (i := 236) rfl, rfl, rfl⟩
set_option maxRecDepth 20000 in
theorem fk_11_7 : FK 11 (32, 11, 13, 2, 1310) := ⟨Nat.le_of_ble_eq_true rfl, Nat.le_of_ble_eq_true rfl, mt_5 (i := 239) rfl, rfl, rfl⟩
set_option maxRecDepth 20000 in
theorem fk_11_8 : FK 11 (35, 11, 15, 0, 1312) := ⟨Nat.le_of_ble_eq_true rfl, Nat.le_of_ble_eq_true rfl, mt_6 (i := 1) rfl, rfl, rfl⟩
set_option maxRecDepth 20000 in
theorem fk_11_9 : FK 11 (39, 11, 23, 2, 1320) := ⟨Nat.le_of_ble_eq_true rfl, Nat.le_of_ble_eq_true rfl, mt_6 (i := 9) rfl, rfl, rfl⟩
set_option maxRecDepth 20000 in
theorem fk_11_10 : FK 11 (42, 11, 24, 2, 1321) := ⟨Nat.le_of_ble_eq_true rfl, Nat.le_of_ble_eq_true rfl, mt_6 (i := 10) rfl, rfl, rfl⟩
set_option maxRecDepth 20000 in
theorem fk_11_11 : FK 11 (45, 11, 25, 2, 1322) := ⟨Nat.le_of_ble_eq_true rfl, Nat.le_of_ble_eq_true rfl, mt_6 (i := 11) rfl, rfl, rfl⟩
set_option maxRecDepth 20000 in
theorem fk_11_12 : FK 11 (48, 11, 26, 2, 1323) := ⟨Nat.le_of_ble_eq_true rfl, Nat.le_of_ble_eq_true rfl, mt_6 (i := 12) rfl, rfl, rfl⟩
set_option maxRecDepth 20000 in
theorem fk_11_13 : FK 11 (62, 11, 0, 0, 1297) := ⟨Nat.le_of_ble_eq_true rfl, Nat.le_of_ble_eq_true rfl, mt_5 (i := 226) rfl, rfl, rfl⟩
set_option maxRecDepth 20000 in
theorem fk_11_14 : FK 11 (65, 11, 2, 0, 1299) := ⟨Nat.le_of_ble_eq_true rfl, Nat.le_of_ble_eq_true rfl, mt_5 (i := 228) rfl, rfl, rfl⟩
set_option maxRecDepth 20000 in
theorem fk_11_15 : FK 11 (71, 11, 3, 0, 1300) := ⟨Nat.le_of_ble_eq_true rfl, Nat.le_of_ble_eq_true rfl, mt_5 (i := 229) rfl, rfl, rfl⟩
set_option maxRecDepth 20000 in
theorem fk_11_16 : FK 11 (129, 11, 8, 0, 1305) := ⟨Nat.le_of_ble_eq_true rfl, Nat.le_of_ble_eq_true rfl, mt_5 (i := 234) rfl, rfl, rfl⟩
set_option maxRecDepth 20000 in
theorem fk_11_17 : FK 11 (187, 11, 11, 0, 1308) := ⟨Nat.le_of_ble_eq_true rfl, Nat.le_of_ble_eq_true rfl, mt_5 (i := 237) rfl, rfl, rfl⟩
set_option maxRecDepth 20000 in
theorem fk_11_18 : FK 11 (190, 11, 12, 0, 1309) := ⟨Nat.le_of_ble_eq_true rfl, Nat.le_of_ble_eq_true rfl, mt_5 (i := 238) rfl, rfl, rfl⟩
set_option maxRecDepth 20000 in
theorem fk_11_19 : FK 11 (196, 11, 14, 0, 1311) := ⟨Nat.le_of_ble_eq_true rfl, Nat.le_of_ble_eq_true rfl, mt_6 (i := 0) rfl, rfl, rfl⟩
set_option maxRecDepth 20000 in
theorem fk_11_20 : FK 11 (199, 11, 18, 0, 1315) := ⟨Nat.le_of_ble_eq_true rfl, Nat.le_of_ble_eq_true rfl, mt_6 (i := 4) rfl, rfl, rfl⟩
set_option maxRecDepth 20000 in
theorem fk_11_21 : FK 11 (202, 11, 19, 0, 1316) := ⟨Nat.le_of_ble_eq_true rfl, Nat.le_of_ble_eq_true rfl, mt_6 (i := 5) rfl, rfl, rfl⟩
set_option maxRecDepth 20000 in
theorem fk_11_22 : FK 11 (205, 11, 17, 0, 1314) := ⟨Nat.le_of_ble_eq_true rfl, Nat.le_of_ble_eq_true rfl, mt_6 (i := 3) rfl, rfl, rfl⟩
set_option maxRecDepth 20000 in
theorem fk_11_23 : FK 11 (208, 11, 16, 0, 1313) := ⟨Nat.le_of_ble_eq_true rfl, Nat.le_of_ble_eq_true rfl, mt_6 (i := 2) rfl, rfl, rfl⟩
set_option maxRecDepth 20000 in
theorem fk_11_24 : FK 11 (229, 11, 21, 0, 1318) := ⟨Nat.le_of_ble_eq_true rfl, Nat.le_of_ble_eq_true rfl, mt_6 (i := 7) rfl, rfl, rfl⟩
set_option maxRecDepth 20000 in
theorem fk_11_25 : FK 11 (232, 11, 22, 0, 1319) := ⟨Nat.le_of_ble_eq_true rfl, Nat.le_of_ble_eq_true rfl, mt_6 (i := 8) rfl, rfl, rfl⟩
set_option maxRecDepth 20000 in
theorem fk_11_26 : FK 11 (251, 11, 20, 0, 1317) := ⟨Nat.le_of_ble_eq_true rfl, Nat.le_of_ble_eq_true rfl, mt_6 (i := 6) rfl, rfl, rfl⟩
set_option maxRecDepth 20000 in
theorem fk_11_27 : FK 11 (353, 11, 27, 0, 1324) := ⟨Nat.le_of_ble_eq_true rfl, Nat.le_of_ble_eq_true rfl, mt_6 (i := 13) rfl, rfl, rfl⟩
set_option maxRecDepth 20000 in
theorem fk_11_28 : FK 11 (376, 11, 28, 1, 1325) := ⟨Nat.le_of_ble_eq_true rfl, Nat.le_of_ble_eq_true rfl, mt_6 (i := 14) rfl, rfl, rfl⟩
set_option maxRecDepth 20000 in
theorem fk_11 : ∀ e ∈ fTL.getD 11 [], FK 11 e := List.forall_mem_cons.mpr ⟨fk_11_0, List.forall_mem_cons.mpr ⟨fk_11_1, List.forall_mem_cons.mpr ⟨fk_11_2, List.forall_mem_cons.mpr ⟨fk_11_3, List.forall_mem_cons.mpr ⟨fk_11_4, List.forall_mem_cons.mpr ⟨fk_11_5, List.forall_mem_cons.mpr ⟨fk_11_6, List.forall_mem_cons.mpr ⟨fk_11_7, List.forall_mem_cons.mpr ⟨fk_11_8, List.forall_mem_cons.mpr ⟨fk_11_9, List.forall_mem_cons.mpr ⟨fk_11_10, List.forall_mem_cons.mpr ⟨fk_11_11, List.forall_mem_cons.mpr ⟨fk_11_12, List.forall_mem_cons.mpr ⟨fk_11_13, List.forall_mem_cons.mpr ⟨fk_11_14, List.forall_mem_cons.mpr ⟨fk_11_15, List.forall_mem_cons.mpr ⟨fk_11_16, List.forall_mem_cons.mpr ⟨fk_11_17, List.forall_mem_cons.mpr ⟨fk_11_18, List.forall_mem_cons.mpr ⟨fk_11_19, List.forall_mem_cons.mpr ⟨fk_11_20, List.forall_mem_cons.mpr ⟨fk_11_21, List.forall_mem_cons.mpr ⟨fk_11_22, List.forall_mem_cons.mpr ⟨fk_11_23, List.forall_mem_cons.mpr ⟨fk_11_24, List.forall_mem_cons.mpr ⟨fk_11_25, List.forall_mem_cons.mpr ⟨fk_11_26, List.forall_mem_cons.mpr ⟨fk_11_27, List.forall_mem_cons.mpr ⟨fk_11_28, fun _ h => absurd h List.not_mem_nil⟩⟩⟩⟩⟩⟩⟩⟩⟩⟩⟩⟩⟩⟩⟩⟩⟩⟩⟩⟩⟩⟩⟩⟩⟩⟩⟩⟩⟩
set_option maxRecDepth 20000 in
theorem fk_12 : ∀ e ∈ fTL.getD 12 [], FK 12 e := fun _ h => absurd h List.not_mem_nil
set_option maxRecDepth 20000 in
theorem fk_all (cx : Nat) (hc : cx < 13) : ∀ e ∈ fTL.getD cx [], FK cx e := by
  match cx, hc with
  | 0, _ => exact fk_0
  | 1, _ => exact fk_1
  | 2, _ => exact fk_2
  | 3, _ => exact fk_3
  | 4, _ => exact fk_4
  | 5, _ => exact fk_5
  | 6, _ => exact fk_6
  | 7, _ => exact fk_7
  | 8, _ => exact fk_8
  | 9, _ => exact fk_9
  | 10, _ => exact fk_10
  | 11, _ => exact fk_11
  | 12, _ => exact fk_12
def CK (cx : Nat) (e : Nat × Nat × Nat × Nat × Nat × Nat) : Prop := (e.2.1 = 0 ∧ e.2.2.1 < 12 ∧ Cond.classLink (cnm cx) e.1 (cN9 e.2.2.1) ∈ lw_tbl ∧ Cond.instantiable (cN9 e.2.2.1) (cS9 e.2.2.1) ∈ lw_tbl ∧ Cond.initialized (cN9 e.2.2.1) ∈ lw_tbl) ∨
  (e.2.1 = 1 ∧ e.2.2.1 < 4 ∧ Cond.classLink (cnm cx) e.1 (EXL.getD e.2.2.1 "") ∈ lw_tbl ∧ (cx = 12 ∨ Cond.initialized (EXL.getD e.2.2.1 "") ∈ lw_tbl))
set_option maxRecDepth 20000 in
theorem ck_0_0 : CK 0 (29, 0, 1, 297, 298, 117) := Or.inl ⟨rfl, Nat.le_of_ble_eq_true rfl, mt_1 (i := 186) rfl, mt_1 (i := 187) rfl, mt_1 (i := 6) rfl⟩
set_option maxRecDepth 20000 in
theorem ck_0 : ∀ e ∈ cTL.getD 0 [], CK 0 e := List.forall_mem_cons.mpr ⟨ck_0_0, fun _ h => absurd h List.not_mem_nil⟩
set_option maxRecDepth 20000 in
theorem ck_1 : ∀ e ∈ cTL.getD 1 [], CK 1 e := fun _ h => absurd h List.not_mem_nil
set_option maxRecDepth 20000 in
theorem ck_2 : ∀ e ∈ cTL.getD 2 [], CK 2 e := fun _ h => absurd h List.not_mem_nil
set_option maxRecDepth 20000 in
theorem ck_3_0 : CK 3 (9, 0, 8, 188, 189, 115) := Or.inl ⟨rfl, Nat.le_of_ble_eq_true rfl, mt_1 (i := 77) rfl, mt_1 (i := 78) rfl, mt_1 (i := 4) rfl⟩
set_option maxRecDepth 20000 in
theorem ck_3 : ∀ e ∈ cTL.getD 3 [], CK 3 e := List.forall_mem_cons.mpr ⟨ck_3_0, fun _ h => absurd h List.not_mem_nil⟩
set_option maxRecDepth 20000 in
theorem ck_4_0 : CK 4 (9, 0, 3, 457, 183, 114) := Or.inl ⟨rfl, Nat.le_of_ble_eq_true rfl, mt_2 (i := 106) rfl, mt_1 (i := 72) rfl, mt_1 (i := 3) rfl⟩
set_option maxRecDepth 20000 in
theorem ck_4 : ∀ e ∈ cTL.getD 4 [], CK 4 e := List.forall_mem_cons.mpr ⟨ck_4_0, fun _ h => absurd h List.not_mem_nil⟩
set_option maxRecDepth 20000 in
theorem ck_5 : ∀ e ∈ cTL.getD 5 [], CK 5 e := fun _ h => absurd h List.not_mem_nil
set_option maxRecDepth 20000 in
theorem ck_6_0 : CK 6 (26, 0, 0, 431, 292, 116) := Or.inl ⟨rfl, Nat.le_of_ble_eq_true rfl, mt_2 (i := 80) rfl, mt_1 (i := 181) rfl, mt_1 (i := 5) rfl⟩
set_option maxRecDepth 20000 in
theorem ck_6_1 : CK 6 (35, 0, 9, 433, 354, 118) := Or.inl ⟨rfl, Nat.le_of_ble_eq_true rfl, mt_2 (i := 82) rfl, mt_2 (i := 3) rfl, mt_1 (i := 7) rfl⟩
set_option maxRecDepth 20000 in
theorem ck_6 : ∀ e ∈ cTL.getD 6 [], CK 6 e := List.forall_mem_cons.mpr ⟨ck_6_0, List.forall_mem_cons.mpr ⟨ck_6_1, fun _ h => absurd h List.not_mem_nil⟩⟩
set_option maxRecDepth 20000 in
theorem ck_7_0 : CK 7 (26, 0, 9, 383, 354, 118) := Or.inl ⟨rfl, Nat.le_of_ble_eq_true rfl, mt_2 (i := 32) rfl, mt_2 (i := 3) rfl, mt_1 (i := 7) rfl⟩
set_option maxRecDepth 20000 in
theorem ck_7 : ∀ e ∈ cTL.getD 7 [], CK 7 e := List.forall_mem_cons.mpr ⟨ck_7_0, fun _ h => absurd h List.not_mem_nil⟩
set_option maxRecDepth 20000 in
theorem ck_8 : ∀ e ∈ cTL.getD 8 [], CK 8 e := fun _ h => absurd h List.not_mem_nil
set_option maxRecDepth 20000 in
theorem ck_9 : ∀ e ∈ cTL.getD 9 [], CK 9 e := fun _ h => absurd h List.not_mem_nil
set_option maxRecDepth 20000 in
theorem ck_10_0 : CK 10 (9, 0, 2, 145, 146, 113) := Or.inl ⟨rfl, Nat.le_of_ble_eq_true rfl, mt_1 (i := 34) rfl, mt_1 (i := 35) rfl, mt_1 (i := 2) rfl⟩
set_option maxRecDepth 20000 in
theorem ck_10_1 : CK 10 (20, 0, 3, 182, 183, 114) := Or.inl ⟨rfl, Nat.le_of_ble_eq_true rfl, mt_1 (i := 71) rfl, mt_1 (i := 72) rfl, mt_1 (i := 3) rfl⟩
set_option maxRecDepth 20000 in
theorem ck_10_2 : CK 10 (27, 0, 0, 291, 292, 116) := Or.inl ⟨rfl, Nat.le_of_ble_eq_true rfl, mt_1 (i := 180) rfl, mt_1 (i := 181) rfl, mt_1 (i := 5) rfl⟩
set_option maxRecDepth 20000 in
theorem ck_10_3 : CK 10 (36, 0, 9, 353, 354, 118) := Or.inl ⟨rfl, Nat.le_of_ble_eq_true rfl, mt_2 (i := 2) rfl, mt_2 (i := 3) rfl, mt_1 (i := 7) rfl⟩
set_option maxRecDepth 20000 in
theorem ck_10_4 : CK 10 (43, 0, 1, 375, 298, 117) := Or.inl ⟨rfl, Nat.le_of_ble_eq_true rfl, mt_2 (i := 24) rfl, mt_1 (i := 187) rfl, mt_1 (i := 6) rfl⟩
set_option maxRecDepth 20000 in
theorem ck_10_5 : CK 10 (50, 0, 7, 377, 378, 119) := Or.inl ⟨rfl, Nat.le_of_ble_eq_true rfl, mt_2 (i := 26) rfl, mt_2 (i := 27) rfl, mt_1 (i := 8) rfl⟩
set_option maxRecDepth 20000 in
theorem ck_10_6 : CK 10 (57, 0, 5, 401, 402, 120) := Or.inl ⟨rfl, Nat.le_of_ble_eq_true rfl, mt_2 (i := 50) rfl, mt_2 (i := 51) rfl, mt_1 (i := 9) rfl⟩
set_option maxRecDepth 20000 in
theorem ck_10_7 : CK 10 (67, 0, 6, 425, 426, 121) := Or.inl ⟨rfl, Nat.le_of_ble_eq_true rfl, mt_2 (i := 74) rfl, mt_2 (i := 75) rfl, mt_1 (i := 10) rfl⟩
set_option maxRecDepth 20000 in
theorem ck_10_8 : CK 10 (76, 0, 4, 451, 452, 122) := Or.inl ⟨rfl, Nat.le_of_ble_eq_true rfl, mt_2 (i := 100) rfl, mt_2 (i := 101) rfl, mt_1 (i := 11) rfl⟩
set_option maxRecDepth 20000 in
theorem ck_10_9 : CK 10 (132, 1, 0, 645, 0, 127) := Or.inr ⟨rfl, Nat.le_of_ble_eq_true rfl, mt_3 (i := 54) rfl, Or.inr (mt_1 (i := 16) rfl)⟩
set_option maxRecDepth 20000 in
theorem ck_10_10 : CK 10 (151, 1, 2, 979, 0, 134) := Or.inr ⟨rfl, Nat.le_of_ble_eq_true rfl, mt_4 (i := 148) rfl, Or.inr (mt_1 (i := 23) rfl)⟩
set_option maxRecDepth 20000 in
theorem ck_10_11 : CK 10 (174, 1, 3, 1016, 0, 135) := Or.inr ⟨rfl, Nat.le_of_ble_eq_true rfl, mt_4 (i := 185) rfl, Or.inr (mt_1 (i := 24) rfl)⟩
set_option maxRecDepth 20000 in
theorem ck_10_12 : CK 10 (269, 1, 1, 1238, 0, 136) := Or.inr ⟨rfl, Nat.le_of_ble_eq_true rfl, mt_5 (i := 167) rfl, Or.inr (mt_1 (i := 25) rfl)⟩
set_option maxRecDepth 20000 in
theorem ck_10 : ∀ e ∈ cTL.getD 10 [], CK 10 e := List.forall_mem_cons.mpr ⟨ck_10_0, List.forall_mem_cons.mpr ⟨ck_10_1, List.forall_mem_cons.mpr ⟨ck_10_2, List.forall_mem_cons.mpr ⟨ck_10_3, List.forall_mem_cons.mpr ⟨ck_10_4, List.forall_mem_cons.mpr ⟨ck_10_5, List.forall_mem_cons.mpr ⟨ck_10_6, List.forall_mem_cons.mpr ⟨ck_10_7, List.forall_mem_cons.mpr ⟨ck_10_8, List.forall_mem_cons.mpr ⟨ck_10_9, List.forall_mem_cons.mpr ⟨ck_10_10, List.forall_mem_cons.mpr ⟨ck_10_11, List.forall_mem_cons.mpr ⟨ck_10_12, fun _ h => absurd h List.not_mem_nil⟩⟩⟩⟩⟩⟩⟩⟩⟩⟩⟩⟩⟩
set_option maxRecDepth 20000 in
theorem ck_11 : ∀ e ∈ cTL.getD 11 [], CK 11 e := fun _ h => absurd h List.not_mem_nil
set_option maxRecDepth 20000 in
theorem ck_12_0 : CK 12 (8, 0, 10, 137, 138, 112) := Or.inl ⟨rfl, Nat.le_of_ble_eq_true rfl, mt_1 (i := 26) rfl, mt_1 (i := 27) rfl, mt_1 (i := 1) rfl⟩
set_option maxRecDepth 20000 in
theorem ck_12_1 : CK 12 (13, 1, 0, 636, 0, 127) := Or.inr ⟨rfl, Nat.le_of_ble_eq_true rfl, mt_3 (i := 45) rfl, Or.inl rfl⟩
set_option maxRecDepth 20000 in
theorem ck_12_2 : CK 12 (21, 1, 2, 970, 0, 134) := Or.inr ⟨rfl, Nat.le_of_ble_eq_true rfl, mt_4 (i := 139) rfl, Or.inl rfl⟩
set_option maxRecDepth 20000 in
theorem ck_12_3 : CK 12 (30, 1, 3, 1006, 0, 135) := Or.inr ⟨rfl, Nat.le_of_ble_eq_true rfl, mt_4 (i := 175) rfl, Or.inl rfl⟩
set_option maxRecDepth 20000 in
theorem ck_12_4 : CK 12 (85, 1, 1, 1233, 0, 136) := Or.inr ⟨rfl, Nat.le_of_ble_eq_true rfl, mt_5 (i := 162) rfl, Or.inl rfl⟩
set_option maxRecDepth 20000 in
theorem ck_12_5 : CK 12 (88, 0, 11, 1258, 1259, 123) := Or.inl ⟨rfl, Nat.le_of_ble_eq_true rfl, mt_5 (i := 187) rfl, mt_5 (i := 188) rfl, mt_1 (i := 12) rfl⟩
set_option maxRecDepth 20000 in
theorem ck_12 : ∀ e ∈ cTL.getD 12 [], CK 12 e := List.forall_mem_cons.mpr ⟨ck_12_0, List.forall_mem_cons.mpr ⟨ck_12_1, List.forall_mem_cons.mpr ⟨ck_12_2, List.forall_mem_cons.mpr ⟨ck_12_3, List.forall_mem_cons.mpr ⟨ck_12_4, List.forall_mem_cons.mpr ⟨ck_12_5, fun _ h => absurd h List.not_mem_nil⟩⟩⟩⟩⟩⟩
set_option maxRecDepth 20000 in
theorem ck_all (cx : Nat) (hc : cx < 13) : ∀ e ∈ cTL.getD cx [], CK cx e := by
  match cx, hc with
  | 0, _ => exact ck_0
  | 1, _ => exact ck_1
  | 2, _ => exact ck_2
  | 3, _ => exact ck_3
  | 4, _ => exact ck_4
  | 5, _ => exact ck_5
  | 6, _ => exact ck_6
  | 7, _ => exact ck_7
  | 8, _ => exact ck_8
  | 9, _ => exact ck_9
  | 10, _ => exact ck_10
  | 11, _ => exact ck_11
  | 12, _ => exact ck_12
def intN (m : Nat) : MethodName := match m with
  | 500 => objectInit
  | 501 => ⟨"java/lang/String", "length", "()I"⟩
  | 502 => ⟨"java/lang/String", "charAt", "(I)C"⟩
  | 503 => Lib.Math.max.name
  | 504 => Lib.Math.min.name
  | _ => arraycopyName
def mNam (y : Nat) : MethodName := mNm.getD y ⟨"", "", ""⟩
def MK (cx : Nat) (e : Nat × Nat × Nat × Nat) : Prop := (e.2.1 < 252 ∧ e.2.2.1 = 0 ∧ Cond.methodLink (cnm cx) e.1 (mNam e.2.1) ∈ lw_tbl) ∨ (e.2.1 < 252 ∧ e.2.2.1 = 1 ∧ mkd e.2.1 = 2 ∧ Cond.methodLinkNest (cnm cx) e.1 (mNam e.2.1) "MountSpaces" ∈ lw_tbl) ∨ (500 ≤ e.2.1 ∧ e.2.1 < 506 ∧ Cond.methodLink (cnm cx) e.1 (intN e.2.1) ∈ lw_tbl) ∨ 600 ≤ e.2.1
set_option maxRecDepth 20000 in
theorem mk_0_0 : MK 0 (3, 500, 0, 296) := Or.inr (Or.inr (Or.inl ⟨Nat.le_of_ble_eq_true rfl, Nat.le_of_ble_eq_true rfl, mt_1 (i := 185) rfl⟩))
set_option maxRecDepth 20000 in
theorem mk_0_1 : MK 0 (31, 18, 0, 299) := Or.inl ⟨Nat.le_of_ble_eq_true rfl, rfl, mt_1 (i := 188) rfl⟩
set_option maxRecDepth 20000 in
theorem mk_0_2 : MK 0 (38, 42, 0, 875) := Or.inl ⟨Nat.le_of_ble_eq_true rfl, rfl, mt_4 (i := 44) rfl⟩
set_option maxRecDepth 20000 in
theorem mk_0_3 : MK 0 (44, 6, 0, 876) := Or.inl ⟨Nat.le_of_ble_eq_true rfl, rfl, mt_4 (i := 45) rfl⟩
set_option maxRecDepth 20000 in
theorem mk_0_4 : MK 0 (54, 37, 0, 891) := Or.inl ⟨Nat.le_of_ble_eq_true rfl, rfl, mt_4 (i := 60) rfl⟩
set_option maxRecDepth 20000 in
theorem mk_0_5 : MK 0 (57, 7, 0, 892) := Or.inl ⟨Nat.le_of_ble_eq_true rfl, rfl, mt_4 (i := 61) rfl⟩
set_option maxRecDepth 20000 in
theorem mk_0_6 : MK 0 (73, 4, 0, 1170) := Or.inl ⟨Nat.le_of_ble_eq_true rfl, rfl, mt_5 (i := 99) rfl⟩
set_option maxRecDepth 20000 in
theorem mk_0_7 : MK 0 (79, 43, 0, 1174) := Or.inl ⟨Nat.le_of_ble_eq_true rfl, rfl, mt_5 (i := 103) rfl⟩
set_option maxRecDepth 20000 in
theorem mk_0_8 : MK 0 (83, 44, 0, 1175) := Or.inl ⟨Nat.le_of_ble_eq_true rfl, rfl, mt_5 (i := 104) rfl⟩
set_option maxRecDepth 20000 in
theorem mk_0_9 : MK 0 (87, 5, 0, 1179) := Or.inl ⟨Nat.le_of_ble_eq_true rfl, rfl, mt_5 (i := 108) rfl⟩
set_option maxRecDepth 20000 in
theorem mk_0_10 : MK 0 (91, 19, 0, 880) := Or.inl ⟨Nat.le_of_ble_eq_true rfl, rfl, mt_4 (i := 49) rfl⟩
set_option maxRecDepth 20000 in
theorem mk_0_11 : MK 0 (101, 41, 0, 881) := Or.inl ⟨Nat.le_of_ble_eq_true rfl, rfl, mt_4 (i := 50) rfl⟩
set_option maxRecDepth 20000 in
theorem mk_0_12 : MK 0 (104, 46, 0, 885) := Or.inl ⟨Nat.le_of_ble_eq_true rfl, rfl, mt_4 (i := 54) rfl⟩
set_option maxRecDepth 20000 in
theorem mk_0_13 : MK 0 (114, 40, 0, 896) := Or.inl ⟨Nat.le_of_ble_eq_true rfl, rfl, mt_4 (i := 65) rfl⟩
set_option maxRecDepth 20000 in
theorem mk_0_14 : MK 0 (118, 8, 0, 900) := Or.inl ⟨Nat.le_of_ble_eq_true rfl, rfl, mt_4 (i := 69) rfl⟩
set_option maxRecDepth 20000 in
theorem mk_0_15 : MK 0 (123, 10, 0, 908) := Or.inl ⟨Nat.le_of_ble_eq_true rfl, rfl, mt_4 (i := 77) rfl⟩
set_option maxRecDepth 20000 in
theorem mk_0_16 : MK 0 (127, 22, 0, 904) := Or.inl ⟨Nat.le_of_ble_eq_true rfl, rfl, mt_4 (i := 73) rfl⟩
set_option maxRecDepth 20000 in
theorem mk_0_17 : MK 0 (133, 9, 0, 912) := Or.inl ⟨Nat.le_of_ble_eq_true rfl, rfl, mt_4 (i := 81) rfl⟩
set_option maxRecDepth 20000 in
theorem mk_0_18 : MK 0 (137, 38, 0, 1194) := Or.inl ⟨Nat.le_of_ble_eq_true rfl, rfl, mt_5 (i := 123) rfl⟩
set_option maxRecDepth 20000 in
theorem mk_0_19 : MK 0 (140, 12, 0, 1202) := Or.inl ⟨Nat.le_of_ble_eq_true rfl, rfl, mt_5 (i := 131) rfl⟩
set_option maxRecDepth 20000 in
theorem mk_0_20 : MK 0 (144, 14, 0, 946) := Or.inl ⟨Nat.le_of_ble_eq_true rfl, rfl, mt_4 (i := 115) rfl⟩
set_option maxRecDepth 20000 in
theorem mk_0_21 : MK 0 (150, 16, 0, 1226) := Or.inl ⟨Nat.le_of_ble_eq_true rfl, rfl, mt_5 (i := 155) rfl⟩
set_option maxRecDepth 20000 in
theorem mk_0 : ∀ e ∈ mTL.getD 0 [], MK 0 e := List.forall_mem_cons.mpr ⟨mk_0_0, List.forall_mem_cons.mpr ⟨mk_0_1, List.forall_mem_cons.mpr ⟨mk_0_2, List.forall_mem_cons.mpr ⟨mk_0_3, List.forall_mem_cons.mpr ⟨mk_0_4, List.forall_mem_cons.mpr ⟨mk_0_5, List.forall_mem_cons.mpr ⟨mk_0_6, List.forall_mem_cons.mpr ⟨mk_0_7, List.forall_mem_cons.mpr ⟨mk_0_8, List.forall_mem_cons.mpr ⟨mk_0_9, List.forall_mem_cons.mpr ⟨mk_0_10, List.forall_mem_cons.mpr ⟨mk_0_11, List.forall_mem_cons.mpr ⟨mk_0_12, List.forall_mem_cons.mpr ⟨mk_0_13, List.forall_mem_cons.mpr ⟨mk_0_14, List.forall_mem_cons.mpr ⟨mk_0_15, List.forall_mem_cons.mpr ⟨mk_0_16, List.forall_mem_cons.mpr ⟨mk_0_17, List.forall_mem_cons.mpr ⟨mk_0_18, List.forall_mem_cons.mpr ⟨mk_0_19, List.forall_mem_cons.mpr ⟨mk_0_20, List.forall_mem_cons.mpr ⟨mk_0_21, fun _ h => absurd h List.not_mem_nil⟩⟩⟩⟩⟩⟩⟩⟩⟩⟩⟩⟩⟩⟩⟩⟩⟩⟩⟩⟩⟩⟩
set_option maxRecDepth 20000 in
theorem mk_1_0 : MK 1 (3, 500, 0, 302) := Or.inr (Or.inr (Or.inl ⟨Nat.le_of_ble_eq_true rfl, Nat.le_of_ble_eq_true rfl, mt_1 (i := 191) rfl⟩))
set_option maxRecDepth 20000 in
theorem mk_1_1 : MK 1 (45, 20, 0, 594) := Or.inl ⟨Nat.le_of_ble_eq_true rfl, rfl, mt_3 (i := 3) rfl⟩
set_option maxRecDepth 20000 in
theorem mk_1_2 : MK 1 (49, 21, 0, 598) := Or.inl ⟨Nat.le_of_ble_eq_true rfl, rfl, mt_3 (i := 7) rfl⟩
set_option maxRecDepth 20000 in
theorem mk_1 : ∀ e ∈ mTL.getD 1 [], MK 1 e := List.forall_mem_cons.mpr ⟨mk_1_0, List.forall_mem_cons.mpr ⟨mk_1_1, List.forall_mem_cons.mpr ⟨mk_1_2, fun _ h => absurd h List.not_mem_nil⟩⟩⟩
set_option maxRecDepth 20000 in
theorem mk_2_0 : MK 2 (3, 500, 0, 150) := Or.inr (Or.inr (Or.inl ⟨Nat.le_of_ble_eq_true rfl, Nat.le_of_ble_eq_true rfl, mt_1 (i := 39) rfl⟩))
set_option maxRecDepth 20000 in
theorem mk_2_1 : MK 2 (37, 504, 0, 717) := Or.inr (Or.inr (Or.inl ⟨Nat.le_of_ble_eq_true rfl, Nat.le_of_ble_eq_true rfl, mt_3 (i := 126) rfl⟩))
set_option maxRecDepth 20000 in
theorem mk_2_2 : MK 2 (43, 503, 0, 720) := Or.inr (Or.inr (Or.inl ⟨Nat.le_of_ble_eq_true rfl, Nat.le_of_ble_eq_true rfl, mt_3 (i := 129) rfl⟩))
set_option maxRecDepth 20000 in
theorem mk_2_3 : MK 2 (46, 27, 0, 723) := Or.inl ⟨Nat.le_of_ble_eq_true rfl, rfl, mt_3 (i := 132) rfl⟩
set_option maxRecDepth 20000 in
theorem mk_2_4 : MK 2 (49, 28, 0, 727) := Or.inl ⟨Nat.le_of_ble_eq_true rfl, rfl, mt_3 (i := 136) rfl⟩
set_option maxRecDepth 20000 in
theorem mk_2_5 : MK 2 (53, 29, 0, 792) := Or.inl ⟨Nat.le_of_ble_eq_true rfl, rfl, mt_3 (i := 201) rfl⟩
set_option maxRecDepth 20000 in
theorem mk_2_6 : MK 2 (57, 33, 0, 740) := Or.inl ⟨Nat.le_of_ble_eq_true rfl, rfl, mt_3 (i := 149) rfl⟩
set_option maxRecDepth 20000 in
theorem mk_2_7 : MK 2 (61, 501, 0, 744) := Or.inr (Or.inr (Or.inl ⟨Nat.le_of_ble_eq_true rfl, Nat.le_of_ble_eq_true rfl, mt_3 (i := 153) rfl⟩))
set_option maxRecDepth 20000 in
theorem mk_2_8 : MK 2 (67, 502, 0, 754) := Or.inr (Or.inr (Or.inl ⟨Nat.le_of_ble_eq_true rfl, Nat.le_of_ble_eq_true rfl, mt_3 (i := 163) rfl⟩))
set_option maxRecDepth 20000 in
theorem mk_2 : ∀ e ∈ mTL.getD 2 [], MK 2 e := List.forall_mem_cons.mpr ⟨mk_2_0, List.forall_mem_cons.mpr ⟨mk_2_1, List.forall_mem_cons.mpr ⟨mk_2_2, List.forall_mem_cons.mpr ⟨mk_2_3, List.forall_mem_cons.mpr ⟨mk_2_4, List.forall_mem_cons.mpr ⟨mk_2_5, List.forall_mem_cons.mpr ⟨mk_2_6, List.forall_mem_cons.mpr ⟨mk_2_7, List.forall_mem_cons.mpr ⟨mk_2_8, fun _ h => absurd h List.not_mem_nil⟩⟩⟩⟩⟩⟩⟩⟩⟩
set_option maxRecDepth 20000 in
theorem mk_3_0 : MK 3 (3, 500, 0, 187) := Or.inr (Or.inr (Or.inl ⟨Nat.le_of_ble_eq_true rfl, Nat.le_of_ble_eq_true rfl, mt_1 (i := 76) rfl⟩))
set_option maxRecDepth 20000 in
theorem mk_3_1 : MK 3 (11, 78, 1, 190) := Or.inr (Or.inl ⟨Nat.le_of_ble_eq_true rfl, rfl, rfl, mt_1 (i := 79) rfl⟩)
set_option maxRecDepth 20000 in
theorem mk_3_2 : MK 3 (62, 37, 0, 483) := Or.inl ⟨Nat.le_of_ble_eq_true rfl, rfl, mt_2 (i := 132) rfl⟩
set_option maxRecDepth 20000 in
theorem mk_3_3 : MK 3 (66, 39, 0, 1198) := Or.inl ⟨Nat.le_of_ble_eq_true rfl, rfl, mt_5 (i := 127) rfl⟩
set_option maxRecDepth 20000 in
theorem mk_3_4 : MK 3 (70, 41, 0, 1117) := Or.inl ⟨Nat.le_of_ble_eq_true rfl, rfl, mt_5 (i := 46) rfl⟩
set_option maxRecDepth 20000 in
theorem mk_3_5 : MK 3 (74, 82, 0, 889) := Or.inl ⟨Nat.le_of_ble_eq_true rfl, rfl, mt_4 (i := 58) rfl⟩
set_option maxRecDepth 20000 in
theorem mk_3_6 : MK 3 (77, 83, 0, 890) := Or.inl ⟨Nat.le_of_ble_eq_true rfl, rfl, mt_4 (i := 59) rfl⟩
set_option maxRecDepth 20000 in
theorem mk_3_7 : MK 3 (84, 48, 0, 566) := Or.inl ⟨Nat.le_of_ble_eq_true rfl, rfl, mt_2 (i := 215) rfl⟩
set_option maxRecDepth 20000 in
theorem mk_3_8 : MK 3 (88, 87, 0, 549) := Or.inl ⟨Nat.le_of_ble_eq_true rfl, rfl, mt_2 (i := 198) rfl⟩
set_option maxRecDepth 20000 in
theorem mk_3_9 : MK 3 (92, 505, 0, 556) := Or.inr (Or.inr (Or.inl ⟨Nat.le_of_ble_eq_true rfl, Nat.le_of_ble_eq_true rfl, mt_2 (i := 205) rfl⟩))
set_option maxRecDepth 20000 in
theorem mk_3 : ∀ e ∈ mTL.getD 3 [], MK 3 e := List.forall_mem_cons.mpr ⟨mk_3_0, List.forall_mem_cons.mpr ⟨mk_3_1, List.forall_mem_cons.mpr ⟨mk_3_2, List.forall_mem_cons.mpr ⟨mk_3_3, List.forall_mem_cons.mpr ⟨mk_3_4, List.forall_mem_cons.mpr ⟨mk_3_5, List.forall_mem_cons.mpr ⟨mk_3_6, List.forall_mem_cons.mpr ⟨mk_3_7, List.forall_mem_cons.mpr ⟨mk_3_8, List.forall_mem_cons.mpr ⟨mk_3_9, fun _ h => absurd h List.not_mem_nil⟩⟩⟩⟩⟩⟩⟩⟩⟩⟩
set_option maxRecDepth 20000 in
theorem mk_4_0 : MK 4 (3, 500, 0, 456) := Or.inr (Or.inr (Or.inl ⟨Nat.le_of_ble_eq_true rfl, Nat.le_of_ble_eq_true rfl, mt_2 (i := 105) rfl⟩))
set_option maxRecDepth 20000 in
theorem mk_4_1 : MK 4 (24, 35, 1, 459) := Or.inr (Or.inl ⟨Nat.le_of_ble_eq_true rfl, rfl, rfl, mt_2 (i := 108) rfl⟩)
set_option maxRecDepth 20000 in
theorem mk_4_2 : MK 4 (25, 50, 0, 545) := Or.inl ⟨Nat.le_of_ble_eq_true rfl, rfl, mt_2 (i := 194) rfl⟩
set_option maxRecDepth 20000 in
theorem mk_4 : ∀ e ∈ mTL.getD 4 [], MK 4 e := List.forall_mem_cons.mpr ⟨mk_4_0, List.forall_mem_cons.mpr ⟨mk_4_1, List.forall_mem_cons.mpr ⟨mk_4_2, fun _ h => absurd h List.not_mem_nil⟩⟩⟩
set_option maxRecDepth 20000 in
theorem mk_5_0 : MK 5 (3, 500, 0, 406) := Or.inr (Or.inr (Or.inl ⟨Nat.le_of_ble_eq_true rfl, Nat.le_of_ble_eq_true rfl, mt_2 (i := 55) rfl⟩))
set_option maxRecDepth 20000 in
theorem mk_5_1 : MK 5 (30, 43, 0, 1113) := Or.inl ⟨Nat.le_of_ble_eq_true rfl, rfl, mt_5 (i := 42) rfl⟩
set_option maxRecDepth 20000 in
theorem mk_5_2 : MK 5 (36, 56, 0, 1118) := Or.inl ⟨Nat.le_of_ble_eq_true rfl, rfl, mt_5 (i := 47) rfl⟩
set_option maxRecDepth 20000 in
theorem mk_5_3 : MK 5 (40, 58, 0, 1127) := Or.inl ⟨Nat.le_of_ble_eq_true rfl, rfl, mt_5 (i := 56) rfl⟩
set_option maxRecDepth 20000 in
theorem mk_5_4 : MK 5 (56, 84, 0, 1122) := Or.inl ⟨Nat.le_of_ble_eq_true rfl, rfl, mt_5 (i := 51) rfl⟩
set_option maxRecDepth 20000 in
theorem mk_5_5 : MK 5 (62, 83, 0, 1126) := Or.inl ⟨Nat.le_of_ble_eq_true rfl, rfl, mt_5 (i := 55) rfl⟩
set_option maxRecDepth 20000 in
theorem mk_5_6 : MK 5 (65, 57, 0, 1131) := Or.inl ⟨Nat.le_of_ble_eq_true rfl, rfl, mt_5 (i := 60) rfl⟩
set_option maxRecDepth 20000 in
theorem mk_5 : ∀ e ∈ mTL.getD 5 [], MK 5 e := List.forall_mem_cons.mpr ⟨mk_5_0, List.forall_mem_cons.mpr ⟨mk_5_1, List.forall_mem_cons.mpr ⟨mk_5_2, List.forall_mem_cons.mpr ⟨mk_5_3, List.forall_mem_cons.mpr ⟨mk_5_4, List.forall_mem_cons.mpr ⟨mk_5_5, List.forall_mem_cons.mpr ⟨mk_5_6, fun _ h => absurd h List.not_mem_nil⟩⟩⟩⟩⟩⟩⟩
set_option maxRecDepth 20000 in
theorem mk_6_0 : MK 6 (3, 500, 0, 430) := Or.inr (Or.inr (Or.inl ⟨Nat.le_of_ble_eq_true rfl, Nat.le_of_ble_eq_true rfl, mt_2 (i := 79) rfl⟩))
set_option maxRecDepth 20000 in
theorem mk_6_1 : MK 6 (28, 0, 0, 432) := Or.inl ⟨Nat.le_of_ble_eq_true rfl, rfl, mt_2 (i := 81) rfl⟩
set_option maxRecDepth 20000 in
theorem mk_6_2 : MK 6 (37, 88, 0, 434) := Or.inl ⟨Nat.le_of_ble_eq_true rfl, rfl, mt_2 (i := 83) rfl⟩
set_option maxRecDepth 20000 in
theorem mk_6_3 : MK 6 (50, 32, 0, 736) := Or.inl ⟨Nat.le_of_ble_eq_true rfl, rfl, mt_3 (i := 145) rfl⟩
set_option maxRecDepth 20000 in
theorem mk_6_4 : MK 6 (56, 31, 0, 796) := Or.inl ⟨Nat.le_of_ble_eq_true rfl, rfl, mt_3 (i := 205) rfl⟩
set_option maxRecDepth 20000 in
theorem mk_6_5 : MK 6 (60, 61, 0, 800) := Or.inl ⟨Nat.le_of_ble_eq_true rfl, rfl, mt_3 (i := 209) rfl⟩
set_option maxRecDepth 20000 in
theorem mk_6_6 : MK 6 (64, 65, 0, 839) := Or.inl ⟨Nat.le_of_ble_eq_true rfl, rfl, mt_4 (i := 8) rfl⟩
set_option maxRecDepth 20000 in
theorem mk_6_7 : MK 6 (69, 33, 0, 805) := Or.inl ⟨Nat.le_of_ble_eq_true rfl, rfl, mt_3 (i := 214) rfl⟩
set_option maxRecDepth 20000 in
theorem mk_6_8 : MK 6 (74, 29, 0, 807) := Or.inl ⟨Nat.le_of_ble_eq_true rfl, rfl, mt_3 (i := 216) rfl⟩
set_option maxRecDepth 20000 in
theorem mk_6_9 : MK 6 (77, 79, 0, 808) := Or.inl ⟨Nat.le_of_ble_eq_true rfl, rfl, mt_3 (i := 217) rfl⟩
set_option maxRecDepth 20000 in
theorem mk_6_10 : MK 6 (80, 27, 0, 812) := Or.inl ⟨Nat.le_of_ble_eq_true rfl, rfl, mt_3 (i := 221) rfl⟩
set_option maxRecDepth 20000 in
theorem mk_6_11 : MK 6 (83, 62, 0, 813) := Or.inl ⟨Nat.le_of_ble_eq_true rfl, rfl, mt_3 (i := 222) rfl⟩
set_option maxRecDepth 20000 in
theorem mk_6_12 : MK 6 (86, 34, 0, 817) := Or.inl ⟨Nat.le_of_ble_eq_true rfl, rfl, mt_3 (i := 226) rfl⟩
set_option maxRecDepth 20000 in
theorem mk_6_13 : MK 6 (90, 85, 0, 821) := Or.inl ⟨Nat.le_of_ble_eq_true rfl, rfl, mt_3 (i := 230) rfl⟩
set_option maxRecDepth 20000 in
theorem mk_6_14 : MK 6 (94, 80, 0, 825) := Or.inl ⟨Nat.le_of_ble_eq_true rfl, rfl, mt_3 (i := 234) rfl⟩
set_option maxRecDepth 20000 in
theorem mk_6_15 : MK 6 (98, 63, 0, 826) := Or.inl ⟨Nat.le_of_ble_eq_true rfl, rfl, mt_3 (i := 235) rfl⟩
set_option maxRecDepth 20000 in
theorem mk_6_16 : MK 6 (105, 64, 0, 830) := Or.inl ⟨Nat.le_of_ble_eq_true rfl, rfl, mt_3 (i := 239) rfl⟩
set_option maxRecDepth 20000 in
theorem mk_6_17 : MK 6 (108, 86, 0, 834) := Or.inl ⟨Nat.le_of_ble_eq_true rfl, rfl, mt_4 (i := 3) rfl⟩
set_option maxRecDepth 20000 in
theorem mk_6_18 : MK 6 (112, 81, 0, 838) := Or.inl ⟨Nat.le_of_ble_eq_true rfl, rfl, mt_4 (i := 7) rfl⟩
set_option maxRecDepth 20000 in
theorem mk_6_19 : MK 6 (115, 66, 0, 843) := Or.inl ⟨Nat.le_of_ble_eq_true rfl, rfl, mt_4 (i := 12) rfl⟩
set_option maxRecDepth 20000 in
theorem mk_6_20 : MK 6 (118, 36, 0, 847) := Or.inl ⟨Nat.le_of_ble_eq_true rfl, rfl, mt_4 (i := 16) rfl⟩
set_option maxRecDepth 20000 in
theorem mk_6_21 : MK 6 (123, 68, 0, 853) := Or.inl ⟨Nat.le_of_ble_eq_true rfl, rfl, mt_4 (i := 22) rfl⟩
set_option maxRecDepth 20000 in
theorem mk_6_22 : MK 6 (128, 69, 0, 921) := Or.inl ⟨Nat.le_of_ble_eq_true rfl, rfl, mt_4 (i := 90) rfl⟩
set_option maxRecDepth 20000 in
theorem mk_6_23 : MK 6 (131, 71, 0, 929) := Or.inl ⟨Nat.le_of_ble_eq_true rfl, rfl, mt_4 (i := 98) rfl⟩
set_option maxRecDepth 20000 in
theorem mk_6_24 : MK 6 (134, 30, 0, 950) := Or.inl ⟨Nat.le_of_ble_eq_true rfl, rfl, mt_4 (i := 119) rfl⟩
set_option maxRecDepth 20000 in
theorem mk_6_25 : MK 6 (137, 91, 0, 857) := Or.inl ⟨Nat.le_of_ble_eq_true rfl, rfl, mt_4 (i := 26) rfl⟩
set_option maxRecDepth 20000 in
theorem mk_6_26 : MK 6 (147, 1, 0, 871) := Or.inl ⟨Nat.le_of_ble_eq_true rfl, rfl, mt_4 (i := 40) rfl⟩
set_option maxRecDepth 20000 in
theorem mk_6_27 : MK 6 (150, 70, 0, 916) := Or.inl ⟨Nat.le_of_ble_eq_true rfl, rfl, mt_4 (i := 85) rfl⟩
set_option maxRecDepth 20000 in
theorem mk_6_28 : MK 6 (153, 2, 0, 925) := Or.inl ⟨Nat.le_of_ble_eq_true rfl, rfl, mt_4 (i := 94) rfl⟩
set_option maxRecDepth 20000 in
theorem mk_6_29 : MK 6 (159, 72, 0, 934) := Or.inl ⟨Nat.le_of_ble_eq_true rfl, rfl, mt_4 (i := 103) rfl⟩
set_option maxRecDepth 20000 in
theorem mk_6_30 : MK 6 (162, 13, 0, 942) := Or.inl ⟨Nat.le_of_ble_eq_true rfl, rfl, mt_4 (i := 111) rfl⟩
set_option maxRecDepth 20000 in
theorem mk_6 : ∀ e ∈ mTL.getD 6 [], MK 6 e := List.forall_mem_cons.mpr ⟨mk_6_0, List.forall_mem_cons.mpr ⟨mk_6_1, List.forall_mem_cons.mpr ⟨mk_6_2, List.forall_mem_cons.mpr ⟨mk_6_3, List.forall_mem_cons.mpr ⟨mk_6_4, List.forall_mem_cons.mpr ⟨mk_6_5, List.forall_mem_cons.mpr ⟨mk_6_6, List.forall_mem_cons.mpr ⟨mk_6_7, List.forall_mem_cons.mpr ⟨mk_6_8, List.forall_mem_cons.mpr ⟨mk_6_9, List.forall_mem_cons.mpr ⟨mk_6_10, List.forall_mem_cons.mpr ⟨mk_6_11, List.forall_mem_cons.mpr ⟨mk_6_12, List.forall_mem_cons.mpr ⟨mk_6_13, List.forall_mem_cons.mpr ⟨mk_6_14, List.forall_mem_cons.mpr ⟨mk_6_15, List.forall_mem_cons.mpr ⟨mk_6_16, List.forall_mem_cons.mpr ⟨mk_6_17, List.forall_mem_cons.mpr ⟨mk_6_18, List.forall_mem_cons.mpr ⟨mk_6_19, List.forall_mem_cons.mpr ⟨mk_6_20, List.forall_mem_cons.mpr ⟨mk_6_21, List.forall_mem_cons.mpr ⟨mk_6_22, List.forall_mem_cons.mpr ⟨mk_6_23, List.forall_mem_cons.mpr ⟨mk_6_24, List.forall_mem_cons.mpr ⟨mk_6_25, List.forall_mem_cons.mpr ⟨mk_6_26, List.forall_mem_cons.mpr ⟨mk_6_27, List.forall_mem_cons.mpr ⟨mk_6_28, List.forall_mem_cons.mpr ⟨mk_6_29, List.forall_mem_cons.mpr ⟨mk_6_30, fun _ h => absurd h List.not_mem_nil⟩⟩⟩⟩⟩⟩⟩⟩⟩⟩⟩⟩⟩⟩⟩⟩⟩⟩⟩⟩⟩⟩⟩⟩⟩⟩⟩⟩⟩⟩⟩
set_option maxRecDepth 20000 in
theorem mk_7_0 : MK 7 (3, 500, 0, 382) := Or.inr (Or.inr (Or.inl ⟨Nat.le_of_ble_eq_true rfl, Nat.le_of_ble_eq_true rfl, mt_2 (i := 31) rfl⟩))
set_option maxRecDepth 20000 in
theorem mk_7_1 : MK 7 (28, 88, 0, 384) := Or.inl ⟨Nat.le_of_ble_eq_true rfl, rfl, mt_2 (i := 33) rfl⟩
set_option maxRecDepth 20000 in
theorem mk_7_2 : MK 7 (35, 90, 0, 606) := Or.inl ⟨Nat.le_of_ble_eq_true rfl, rfl, mt_3 (i := 15) rfl⟩
set_option maxRecDepth 20000 in
theorem mk_7_3 : MK 7 (39, 75, 0, 622) := Or.inl ⟨Nat.le_of_ble_eq_true rfl, rfl, mt_3 (i := 31) rfl⟩
set_option maxRecDepth 20000 in
theorem mk_7_4 : MK 7 (42, 76, 0, 626) := Or.inl ⟨Nat.le_of_ble_eq_true rfl, rfl, mt_3 (i := 35) rfl⟩
set_option maxRecDepth 20000 in
theorem mk_7_5 : MK 7 (61, 82, 0, 630) := Or.inl ⟨Nat.le_of_ble_eq_true rfl, rfl, mt_3 (i := 39) rfl⟩
set_option maxRecDepth 20000 in
theorem mk_7_6 : MK 7 (67, 83, 0, 631) := Or.inl ⟨Nat.le_of_ble_eq_true rfl, rfl, mt_3 (i := 40) rfl⟩
set_option maxRecDepth 20000 in
theorem mk_7_7 : MK 7 (71, 89, 0, 632) := Or.inl ⟨Nat.le_of_ble_eq_true rfl, rfl, mt_3 (i := 41) rfl⟩
set_option maxRecDepth 20000 in
theorem mk_7 : ∀ e ∈ mTL.getD 7 [], MK 7 e := List.forall_mem_cons.mpr ⟨mk_7_0, List.forall_mem_cons.mpr ⟨mk_7_1, List.forall_mem_cons.mpr ⟨mk_7_2, List.forall_mem_cons.mpr ⟨mk_7_3, List.forall_mem_cons.mpr ⟨mk_7_4, List.forall_mem_cons.mpr ⟨mk_7_5, List.forall_mem_cons.mpr ⟨mk_7_6, List.forall_mem_cons.mpr ⟨mk_7_7, fun _ h => absurd h List.not_mem_nil⟩⟩⟩⟩⟩⟩⟩⟩
set_option maxRecDepth 20000 in
theorem mk_8_0 : MK 8 (3, 500, 0, 193) := Or.inr (Or.inr (Or.inl ⟨Nat.le_of_ble_eq_true rfl, Nat.le_of_ble_eq_true rfl, mt_1 (i := 82) rfl⟩))
set_option maxRecDepth 20000 in
theorem mk_8_1 : MK 8 (28, 81, 0, 475) := Or.inl ⟨Nat.le_of_ble_eq_true rfl, rfl, mt_2 (i := 124) rfl⟩
set_option maxRecDepth 20000 in
theorem mk_8_2 : MK 8 (32, 505, 0, 553) := Or.inr (Or.inr (Or.inl ⟨Nat.le_of_ble_eq_true rfl, Nat.le_of_ble_eq_true rfl, mt_2 (i := 202) rfl⟩))
set_option maxRecDepth 20000 in
theorem mk_8 : ∀ e ∈ mTL.getD 8 [], MK 8 e := List.forall_mem_cons.mpr ⟨mk_8_0, List.forall_mem_cons.mpr ⟨mk_8_1, List.forall_mem_cons.mpr ⟨mk_8_2, fun _ h => absurd h List.not_mem_nil⟩⟩⟩
set_option maxRecDepth 20000 in
theorem mk_9_0 : MK 9 (3, 500, 0, 358) := Or.inr (Or.inr (Or.inl ⟨Nat.le_of_ble_eq_true rfl, Nat.le_of_ble_eq_true rfl, mt_2 (i := 7) rfl⟩))
set_option maxRecDepth 20000 in
theorem mk_9_1 : MK 9 (22, 42, 0, 618) := Or.inl ⟨Nat.le_of_ble_eq_true rfl, rfl, mt_3 (i := 27) rfl⟩
set_option maxRecDepth 20000 in
theorem mk_9_2 : MK 9 (32, 45, 0, 610) := Or.inl ⟨Nat.le_of_ble_eq_true rfl, rfl, mt_3 (i := 19) rfl⟩
set_option maxRecDepth 20000 in
theorem mk_9_3 : MK 9 (36, 89, 0, 614) := Or.inl ⟨Nat.le_of_ble_eq_true rfl, rfl, mt_3 (i := 23) rfl⟩
set_option maxRecDepth 20000 in
theorem mk_9_4 : MK 9 (40, 31, 0, 861) := Or.inl ⟨Nat.le_of_ble_eq_true rfl, rfl, mt_4 (i := 30) rfl⟩
set_option maxRecDepth 20000 in
theorem mk_9_5 : MK 9 (46, 90, 0, 862) := Or.inl ⟨Nat.le_of_ble_eq_true rfl, rfl, mt_4 (i := 31) rfl⟩
set_option maxRecDepth 20000 in
theorem mk_9_6 : MK 9 (53, 92, 0, 863) := Or.inl ⟨Nat.le_of_ble_eq_true rfl, rfl, mt_4 (i := 32) rfl⟩
set_option maxRecDepth 20000 in
theorem mk_9_7 : MK 9 (57, 27, 0, 870) := Or.inl ⟨Nat.le_of_ble_eq_true rfl, rfl, mt_4 (i := 39) rfl⟩
set_option maxRecDepth 20000 in
theorem mk_9_8 : MK 9 (60, 29, 0, 868) := Or.inl ⟨Nat.le_of_ble_eq_true rfl, rfl, mt_4 (i := 37) rfl⟩
set_option maxRecDepth 20000 in
theorem mk_9_9 : MK 9 (63, 34, 0, 867) := Or.inl ⟨Nat.le_of_ble_eq_true rfl, rfl, mt_4 (i := 36) rfl⟩
set_option maxRecDepth 20000 in
theorem mk_9_10 : MK 9 (74, 86, 0, 869) := Or.inl ⟨Nat.le_of_ble_eq_true rfl, rfl, mt_4 (i := 38) rfl⟩
set_option maxRecDepth 20000 in
theorem mk_9 : ∀ e ∈ mTL.getD 9 [], MK 9 e := List.forall_mem_cons.mpr ⟨mk_9_0, List.forall_mem_cons.mpr ⟨mk_9_1, List.forall_mem_cons.mpr ⟨mk_9_2, List.forall_mem_cons.mpr ⟨mk_9_3, List.forall_mem_cons.mpr ⟨mk_9_4, List.forall_mem_cons.mpr ⟨mk_9_5, List.forall_mem_cons.mpr ⟨mk_9_6, List.forall_mem_cons.mpr ⟨mk_9_7, List.forall_mem_cons.mpr ⟨mk_9_8, List.forall_mem_cons.mpr ⟨mk_9_9, List.forall_mem_cons.mpr ⟨mk_9_10, fun _ h => absurd h List.not_mem_nil⟩⟩⟩⟩⟩⟩⟩⟩⟩⟩⟩
set_option maxRecDepth 20000 in
theorem mk_10_0 : MK 10 (3, 500, 0, 142) := Or.inr (Or.inr (Or.inl ⟨Nat.le_of_ble_eq_true rfl, Nat.le_of_ble_eq_true rfl, mt_1 (i := 31) rfl⟩))
set_option maxRecDepth 20000 in
theorem mk_10_1 : MK 10 (11, 23, 1, 147) := Or.inr (Or.inl ⟨Nat.le_of_ble_eq_true rfl, rfl, rfl, mt_1 (i := 36) rfl⟩)
set_option maxRecDepth 20000 in
theorem mk_10_2 : MK 10 (22, 35, 1, 184) := Or.inr (Or.inl ⟨Nat.le_of_ble_eq_true rfl, rfl, rfl, mt_1 (i := 73) rfl⟩)
set_option maxRecDepth 20000 in
theorem mk_10_3 : MK 10 (29, 0, 0, 293) := Or.inl ⟨Nat.le_of_ble_eq_true rfl, rfl, mt_1 (i := 182) rfl⟩
set_option maxRecDepth 20000 in
theorem mk_10_4 : MK 10 (38, 88, 0, 355) := Or.inl ⟨Nat.le_of_ble_eq_true rfl, rfl, mt_2 (i := 4) rfl⟩
set_option maxRecDepth 20000 in
theorem mk_10_5 : MK 10 (45, 18, 0, 376) := Or.inl ⟨Nat.le_of_ble_eq_true rfl, rfl, mt_2 (i := 25) rfl⟩
set_option maxRecDepth 20000 in
theorem mk_10_6 : MK 10 (52, 73, 0, 379) := Or.inl ⟨Nat.le_of_ble_eq_true rfl, rfl, mt_2 (i := 28) rfl⟩
set_option maxRecDepth 20000 in
theorem mk_10_7 : MK 10 (59, 54, 0, 403) := Or.inl ⟨Nat.le_of_ble_eq_true rfl, rfl, mt_2 (i := 52) rfl⟩
set_option maxRecDepth 20000 in
theorem mk_10_8 : MK 10 (69, 59, 0, 427) := Or.inl ⟨Nat.le_of_ble_eq_true rfl, rfl, mt_2 (i := 76) rfl⟩
set_option maxRecDepth 20000 in
theorem mk_10_9 : MK 10 (78, 51, 0, 453) := Or.inl ⟨Nat.le_of_ble_eq_true rfl, rfl, mt_2 (i := 102) rfl⟩
set_option maxRecDepth 20000 in
theorem mk_10_10 : MK 10 (87, 80, 0, 471) := Or.inl ⟨Nat.le_of_ble_eq_true rfl, rfl, mt_2 (i := 120) rfl⟩
set_option maxRecDepth 20000 in
theorem mk_10_11 : MK 10 (93, 36, 0, 479) := Or.inl ⟨Nat.le_of_ble_eq_true rfl, rfl, mt_2 (i := 128) rfl⟩
set_option maxRecDepth 20000 in
theorem mk_10_12 : MK 10 (96, 24, 0, 525) := Or.inl ⟨Nat.le_of_ble_eq_true rfl, rfl, mt_2 (i := 174) rfl⟩
set_option maxRecDepth 20000 in
theorem mk_10_13 : MK 10 (100, 25, 0, 529) := Or.inl ⟨Nat.le_of_ble_eq_true rfl, rfl, mt_2 (i := 178) rfl⟩
set_option maxRecDepth 20000 in
theorem mk_10_14 : MK 10 (106, 96, 0, 641) := Or.inl ⟨Nat.le_of_ble_eq_true rfl, rfl, mt_3 (i := 50) rfl⟩
set_option maxRecDepth 20000 in
theorem mk_10_15 : MK 10 (109, 26, 0, 713) := Or.inl ⟨Nat.le_of_ble_eq_true rfl, rfl, mt_3 (i := 122) rfl⟩
set_option maxRecDepth 20000 in
theorem mk_10_16 : MK 10 (112, 60, 0, 731) := Or.inl ⟨Nat.le_of_ble_eq_true rfl, rfl, mt_3 (i := 140) rfl⟩
set_option maxRecDepth 20000 in
theorem mk_10_17 : MK 10 (116, 67, 0, 848) := Or.inl ⟨Nat.le_of_ble_eq_true rfl, rfl, mt_4 (i := 17) rfl⟩
set_option maxRecDepth 20000 in
theorem mk_10_18 : MK 10 (123, 52, 0, 954) := Or.inl ⟨Nat.le_of_ble_eq_true rfl, rfl, mt_4 (i := 123) rfl⟩
set_option maxRecDepth 20000 in
theorem mk_10_19 : MK 10 (126, 50, 0, 958) := Or.inl ⟨Nat.le_of_ble_eq_true rfl, rfl, mt_4 (i := 127) rfl⟩
set_option maxRecDepth 20000 in
theorem mk_10_20 : MK 10 (136, 600, 0, 688) := Or.inr (Or.inr (Or.inr (Nat.le_of_ble_eq_true rfl)))
set_option maxRecDepth 20000 in
theorem mk_10_21 : MK 10 (141, 47, 0, 562) := Or.inl ⟨Nat.le_of_ble_eq_true rfl, rfl, mt_2 (i := 211) rfl⟩
set_option maxRecDepth 20000 in
theorem mk_10_22 : MK 10 (145, 101, 0, 975) := Or.inl ⟨Nat.le_of_ble_eq_true rfl, rfl, mt_4 (i := 144) rfl⟩
set_option maxRecDepth 20000 in
theorem mk_10_23 : MK 10 (148, 82, 0, 574) := Or.inl ⟨Nat.le_of_ble_eq_true rfl, rfl, mt_2 (i := 223) rfl⟩
set_option maxRecDepth 20000 in
theorem mk_10_24 : MK 10 (155, 602, 0, 989) := Or.inr (Or.inr (Or.inr (Nat.le_of_ble_eq_true rfl)))
set_option maxRecDepth 20000 in
theorem mk_10_25 : MK 10 (156, 83, 0, 578) := Or.inl ⟨Nat.le_of_ble_eq_true rfl, rfl, mt_2 (i := 227) rfl⟩
set_option maxRecDepth 20000 in
theorem mk_10_26 : MK 10 (163, 103, 0, 1011) := Or.inl ⟨Nat.le_of_ble_eq_true rfl, rfl, mt_4 (i := 180) rfl⟩
set_option maxRecDepth 20000 in
theorem mk_10_27 : MK 10 (168, 49, 0, 586) := Or.inl ⟨Nat.le_of_ble_eq_true rfl, rfl, mt_2 (i := 235) rfl⟩
set_option maxRecDepth 20000 in
theorem mk_10_28 : MK 10 (171, 41, 0, 1015) := Or.inl ⟨Nat.le_of_ble_eq_true rfl, rfl, mt_4 (i := 184) rfl⟩
set_option maxRecDepth 20000 in
theorem mk_10_29 : MK 10 (178, 603, 0, 1026) := Or.inr (Or.inr (Or.inr (Nat.le_of_ble_eq_true rfl)))
set_option maxRecDepth 20000 in
theorem mk_10_30 : MK 10 (179, 46, 0, 1052) := Or.inl ⟨Nat.le_of_ble_eq_true rfl, rfl, mt_4 (i := 221) rfl⟩
set_option maxRecDepth 20000 in
theorem mk_10_31 : MK 10 (191, 104, 0, 1048) := Or.inl ⟨Nat.le_of_ble_eq_true rfl, rfl, mt_4 (i := 217) rfl⟩
set_option maxRecDepth 20000 in
theorem mk_10_32 : MK 10 (194, 42, 0, 1054) := Or.inl ⟨Nat.le_of_ble_eq_true rfl, rfl, mt_4 (i := 223) rfl⟩
set_option maxRecDepth 20000 in
theorem mk_10_33 : MK 10 (197, 108, 0, 1062) := Or.inl ⟨Nat.le_of_ble_eq_true rfl, rfl, mt_4 (i := 231) rfl⟩
set_option maxRecDepth 20000 in
theorem mk_10_34 : MK 10 (200, 91, 0, 1067) := Or.inl ⟨Nat.le_of_ble_eq_true rfl, rfl, mt_4 (i := 236) rfl⟩
set_option maxRecDepth 20000 in
theorem mk_10_35 : MK 10 (204, 30, 0, 1068) := Or.inl ⟨Nat.le_of_ble_eq_true rfl, rfl, mt_4 (i := 237) rfl⟩
set_option maxRecDepth 20000 in
theorem mk_10_36 : MK 10 (218, 74, 0, 602) := Or.inl ⟨Nat.le_of_ble_eq_true rfl, rfl, mt_3 (i := 11) rfl⟩
set_option maxRecDepth 20000 in
theorem mk_10_37 : MK 10 (224, 77, 0, 1083) := Or.inl ⟨Nat.le_of_ble_eq_true rfl, rfl, mt_5 (i := 12) rfl⟩
set_option maxRecDepth 20000 in
theorem mk_10_38 : MK 10 (227, 19, 0, 590) := Or.inl ⟨Nat.le_of_ble_eq_true rfl, rfl, mt_2 (i := 239) rfl⟩
set_option maxRecDepth 20000 in
theorem mk_10_39 : MK 10 (231, 6, 0, 1101) := Or.inl ⟨Nat.le_of_ble_eq_true rfl, rfl, mt_5 (i := 30) rfl⟩
set_option maxRecDepth 20000 in
theorem mk_10_40 : MK 10 (235, 55, 0, 1109) := Or.inl ⟨Nat.le_of_ble_eq_true rfl, rfl, mt_5 (i := 38) rfl⟩
set_option maxRecDepth 20000 in
theorem mk_10_41 : MK 10 (247, 1, 0, 1150) := Or.inl ⟨Nat.le_of_ble_eq_true rfl, rfl, mt_5 (i := 79) rfl⟩
set_option maxRecDepth 20000 in
theorem mk_10_42 : MK 10 (250, 2, 0, 1158) := Or.inl ⟨Nat.le_of_ble_eq_true rfl, rfl, mt_5 (i := 87) rfl⟩
set_option maxRecDepth 20000 in
theorem mk_10_43 : MK 10 (254, 3, 0, 1166) := Or.inl ⟨Nat.le_of_ble_eq_true rfl, rfl, mt_5 (i := 95) rfl⟩
set_option maxRecDepth 20000 in
theorem mk_10_44 : MK 10 (257, 11, 0, 1190) := Or.inl ⟨Nat.le_of_ble_eq_true rfl, rfl, mt_5 (i := 119) rfl⟩
set_option maxRecDepth 20000 in
theorem mk_10_45 : MK 10 (262, 13, 0, 1214) := Or.inl ⟨Nat.le_of_ble_eq_true rfl, rfl, mt_5 (i := 143) rfl⟩
set_option maxRecDepth 20000 in
theorem mk_10_46 : MK 10 (265, 15, 0, 1222) := Or.inl ⟨Nat.le_of_ble_eq_true rfl, rfl, mt_5 (i := 151) rfl⟩
set_option maxRecDepth 20000 in
theorem mk_10_47 : MK 10 (273, 601, 0, 1248) := Or.inr (Or.inr (Or.inr (Nat.le_of_ble_eq_true rfl)))
set_option maxRecDepth 20000 in
theorem mk_10_48 : MK 10 (274, 17, 0, 1254) := Or.inl ⟨Nat.le_of_ble_eq_true rfl, rfl, mt_5 (i := 183) rfl⟩
set_option maxRecDepth 20000 in
theorem mk_10_49 : MK 10 (279, 53, 0, 541) := Or.inl ⟨Nat.le_of_ble_eq_true rfl, rfl, mt_2 (i := 190) rfl⟩
set_option maxRecDepth 20000 in
theorem mk_10_50 : MK 10 (284, 124, 0, 570) := Or.inl ⟨Nat.le_of_ble_eq_true rfl, rfl, mt_2 (i := 219) rfl⟩
set_option maxRecDepth 20000 in
theorem mk_10_51 : MK 10 (288, 125, 0, 582) := Or.inl ⟨Nat.le_of_ble_eq_true rfl, rfl, mt_2 (i := 231) rfl⟩
set_option maxRecDepth 20000 in
theorem mk_10 : ∀ e ∈ mTL.getD 10 [], MK 10 e := List.forall_mem_cons.mpr ⟨mk_10_0, List.forall_mem_cons.mpr ⟨mk_10_1, List.forall_mem_cons.mpr ⟨mk_10_2, List.forall_mem_cons.mpr ⟨mk_10_3, List.forall_mem_cons.mpr ⟨mk_10_4, List.forall_mem_cons.mpr ⟨mk_10_5, List.forall_mem_cons.mpr ⟨mk_10_6, List.forall_mem_cons.mpr ⟨mk_10_7, List.forall_mem_cons.mpr ⟨mk_10_8, List.forall_mem_cons.mpr ⟨mk_10_9, List.forall_mem_cons.mpr ⟨mk_10_10, List.forall_mem_cons.mpr ⟨mk_10_11, List.forall_mem_cons.mpr ⟨mk_10_12, List.forall_mem_cons.mpr ⟨mk_10_13, List.forall_mem_cons.mpr ⟨mk_10_14, List.forall_mem_cons.mpr ⟨mk_10_15, List.forall_mem_cons.mpr ⟨mk_10_16, List.forall_mem_cons.mpr ⟨mk_10_17, List.forall_mem_cons.mpr ⟨mk_10_18, List.forall_mem_cons.mpr ⟨mk_10_19, List.forall_mem_cons.mpr ⟨mk_10_20, List.forall_mem_cons.mpr ⟨mk_10_21, List.forall_mem_cons.mpr ⟨mk_10_22, List.forall_mem_cons.mpr ⟨mk_10_23, List.forall_mem_cons.mpr ⟨mk_10_24, List.forall_mem_cons.mpr ⟨mk_10_25, List.forall_mem_cons.mpr ⟨mk_10_26, List.forall_mem_cons.mpr ⟨mk_10_27, List.forall_mem_cons.mpr ⟨mk_10_28, List.forall_mem_cons.mpr ⟨mk_10_29, List.forall_mem_cons.mpr ⟨mk_10_30, List.forall_mem_cons.mpr ⟨mk_10_31, List.forall_mem_cons.mpr ⟨mk_10_32, List.forall_mem_cons.mpr ⟨mk_10_33, List.forall_mem_cons.mpr ⟨mk_10_34, List.forall_mem_cons.mpr ⟨mk_10_35, List.forall_mem_cons.mpr ⟨mk_10_36, List.forall_mem_cons.mpr ⟨mk_10_37, List.forall_mem_cons.mpr ⟨mk_10_38, List.forall_mem_cons.mpr ⟨mk_10_39, List.forall_mem_cons.mpr ⟨mk_10_40, List.forall_mem_cons.mpr ⟨mk_10_41, List.forall_mem_cons.mpr ⟨mk_10_42, List.forall_mem_cons.mpr ⟨mk_10_43, List.forall_mem_cons.mpr ⟨mk_10_44, List.forall_mem_cons.mpr ⟨mk_10_45, List.forall_mem_cons.mpr ⟨mk_10_46, List.forall_mem_cons.mpr ⟨mk_10_47, List.forall_mem_cons.mpr ⟨mk_10_48, List.forall_mem_cons.mpr ⟨mk_10_49, List.forall_mem_cons.mpr ⟨mk_10_50, List.forall_mem_cons.mpr ⟨mk_10_51, fun _ h => absurd h List.not_mem_nil⟩⟩⟩⟩⟩⟩⟩⟩⟩⟩⟩⟩⟩⟩⟩⟩⟩⟩⟩⟩⟩⟩⟩⟩⟩⟩⟩⟩⟩⟩⟩⟩⟩⟩⟩⟩⟩⟩⟩⟩⟩⟩⟩⟩⟩⟩⟩⟩⟩⟩⟩⟩
set_option maxRecDepth 20000 in
theorem mk_11_0 : MK 11 (1, 500, 0, 1263) := Or.inr (Or.inr (Or.inl ⟨Nat.le_of_ble_eq_true rfl, Nat.le_of_ble_eq_true rfl, mt_5 (i := 192) rfl⟩))
set_option maxRecDepth 20000 in
theorem mk_11_1 : MK 11 (51, 130, 0, 1264) := Or.inl ⟨Nat.le_of_ble_eq_true rfl, rfl, mt_5 (i := 193) rfl⟩
set_option maxRecDepth 20000 in
theorem mk_11_2 : MK 11 (55, 141, 0, 1268) := Or.inl ⟨Nat.le_of_ble_eq_true rfl, rfl, mt_5 (i := 197) rfl⟩
set_option maxRecDepth 20000 in
theorem mk_11_3 : MK 11 (59, 142, 0, 1278) := Or.inl ⟨Nat.le_of_ble_eq_true rfl, rfl, mt_5 (i := 207) rfl⟩
set_option maxRecDepth 20000 in
theorem mk_11_4 : MK 11 (68, 132, 0, 1587) := Or.inl ⟨Nat.le_of_ble_eq_true rfl, rfl, mt_7 (i := 36) rfl⟩
set_option maxRecDepth 20000 in
theorem mk_11_5 : MK 11 (74, 137, 0, 1290) := Or.inl ⟨Nat.le_of_ble_eq_true rfl, rfl, mt_5 (i := 219) rfl⟩
set_option maxRecDepth 20000 in
theorem mk_11_6 : MK 11 (78, 129, 0, 1286) := Or.inl ⟨Nat.le_of_ble_eq_true rfl, rfl, mt_5 (i := 215) rfl⟩
set_option maxRecDepth 20000 in
theorem mk_11_7 : MK 11 (82, 135, 0, 1272) := Or.inl ⟨Nat.le_of_ble_eq_true rfl, rfl, mt_5 (i := 201) rfl⟩
set_option maxRecDepth 20000 in
theorem mk_11_8 : MK 11 (85, 136, 0, 1275) := Or.inl ⟨Nat.le_of_ble_eq_true rfl, rfl, mt_5 (i := 204) rfl⟩
set_option maxRecDepth 20000 in
theorem mk_11_9 : MK 11 (89, 143, 0, 1282) := Or.inl ⟨Nat.le_of_ble_eq_true rfl, rfl, mt_5 (i := 211) rfl⟩
set_option maxRecDepth 20000 in
theorem mk_11_10 : MK 11 (92, 131, 0, 1293) := Or.inl ⟨Nat.le_of_ble_eq_true rfl, rfl, mt_5 (i := 222) rfl⟩
set_option maxRecDepth 20000 in
theorem mk_11_11 : MK 11 (95, 138, 0, 1489) := Or.inl ⟨Nat.le_of_ble_eq_true rfl, rfl, mt_6 (i := 178) rfl⟩
set_option maxRecDepth 20000 in
theorem mk_11_12 : MK 11 (98, 140, 0, 1467) := Or.inl ⟨Nat.le_of_ble_eq_true rfl, rfl, mt_6 (i := 156) rfl⟩
set_option maxRecDepth 20000 in
theorem mk_11_13 : MK 11 (101, 139, 0, 1463) := Or.inl ⟨Nat.le_of_ble_eq_true rfl, rfl, mt_6 (i := 152) rfl⟩
set_option maxRecDepth 20000 in
theorem mk_11_14 : MK 11 (104, 128, 0, 1397) := Or.inl ⟨Nat.le_of_ble_eq_true rfl, rfl, mt_6 (i := 86) rfl⟩
set_option maxRecDepth 20000 in
theorem mk_11_15 : MK 11 (108, 145, 0, 1533) := Or.inl ⟨Nat.le_of_ble_eq_true rfl, rfl, mt_6 (i := 222) rfl⟩
set_option maxRecDepth 20000 in
theorem mk_11_16 : MK 11 (112, 144, 0, 1628) := Or.inl ⟨Nat.le_of_ble_eq_true rfl, rfl, mt_7 (i := 77) rfl⟩
set_option maxRecDepth 20000 in
theorem mk_11_17 : MK 11 (115, 151, 0, 1517) := Or.inl ⟨Nat.le_of_ble_eq_true rfl, rfl, mt_6 (i := 206) rfl⟩
set_option maxRecDepth 20000 in
theorem mk_11_18 : MK 11 (119, 146, 0, 1529) := Or.inl ⟨Nat.le_of_ble_eq_true rfl, rfl, mt_6 (i := 218) rfl⟩
set_option maxRecDepth 20000 in
theorem mk_11_19 : MK 11 (123, 147, 0, 1497) := Or.inl ⟨Nat.le_of_ble_eq_true rfl, rfl, mt_6 (i := 186) rfl⟩
set_option maxRecDepth 20000 in
theorem mk_11_20 : MK 11 (126, 153, 0, 1525) := Or.inl ⟨Nat.le_of_ble_eq_true rfl, rfl, mt_6 (i := 214) rfl⟩
set_option maxRecDepth 20000 in
theorem mk_11_21 : MK 11 (132, 156, 0, 1553) := Or.inl ⟨Nat.le_of_ble_eq_true rfl, rfl, mt_7 (i := 2) rfl⟩
set_option maxRecDepth 20000 in
theorem mk_11_22 : MK 11 (135, 155, 0, 1545) := Or.inl ⟨Nat.le_of_ble_eq_true rfl, rfl, mt_6 (i := 234) rfl⟩
set_option maxRecDepth 20000 in
theorem mk_11_23 : MK 11 (139, 158, 0, 1561) := Or.inl ⟨Nat.le_of_ble_eq_true rfl, rfl, mt_7 (i := 10) rfl⟩
set_option maxRecDepth 20000 in
theorem mk_11_24 : MK 11 (142, 157, 0, 1549) := Or.inl ⟨Nat.le_of_ble_eq_true rfl, rfl, mt_6 (i := 238) rfl⟩
set_option maxRecDepth 20000 in
theorem mk_11_25 : MK 11 (145, 159, 0, 1557) := Or.inl ⟨Nat.le_of_ble_eq_true rfl, rfl, mt_7 (i := 6) rfl⟩
set_option maxRecDepth 20000 in
theorem mk_11_26 : MK 11 (149, 152, 0, 1513) := Or.inl ⟨Nat.le_of_ble_eq_true rfl, rfl, mt_6 (i := 202) rfl⟩
set_option maxRecDepth 20000 in
theorem mk_11_27 : MK 11 (152, 154, 0, 1521) := Or.inl ⟨Nat.le_of_ble_eq_true rfl, rfl, mt_6 (i := 210) rfl⟩
set_option maxRecDepth 20000 in
theorem mk_11_28 : MK 11 (155, 161, 0, 1537) := Or.inl ⟨Nat.le_of_ble_eq_true rfl, rfl, mt_6 (i := 226) rfl⟩
set_option maxRecDepth 20000 in
theorem mk_11_29 : MK 11 (159, 160, 0, 1541) := Or.inl ⟨Nat.le_of_ble_eq_true rfl, rfl, mt_6 (i := 230) rfl⟩
set_option maxRecDepth 20000 in
theorem mk_11_30 : MK 11 (162, 148, 0, 1712) := Or.inl ⟨Nat.le_of_ble_eq_true rfl, rfl, mt_7 (i := 161) rfl⟩
set_option maxRecDepth 20000 in
theorem mk_11_31 : MK 11 (165, 149, 0, 1716) := Or.inl ⟨Nat.le_of_ble_eq_true rfl, rfl, mt_7 (i := 165) rfl⟩
set_option maxRecDepth 20000 in
theorem mk_11_32 : MK 11 (168, 164, 0, 1708) := Or.inl ⟨Nat.le_of_ble_eq_true rfl, rfl, mt_7 (i := 157) rfl⟩
set_option maxRecDepth 20000 in
theorem mk_11_33 : MK 11 (171, 150, 0, 1728) := Or.inl ⟨Nat.le_of_ble_eq_true rfl, rfl, mt_7 (i := 177) rfl⟩
set_option maxRecDepth 20000 in
theorem mk_11_34 : MK 11 (174, 166, 0, 1732) := Or.inl ⟨Nat.le_of_ble_eq_true rfl, rfl, mt_7 (i := 181) rfl⟩
set_option maxRecDepth 20000 in
theorem mk_11_35 : MK 11 (177, 168, 0, 1579) := Or.inl ⟨Nat.le_of_ble_eq_true rfl, rfl, mt_7 (i := 28) rfl⟩
set_option maxRecDepth 20000 in
theorem mk_11_36 : MK 11 (180, 170, 0, 1749) := Or.inl ⟨Nat.le_of_ble_eq_true rfl, rfl, mt_7 (i := 198) rfl⟩
set_option maxRecDepth 20000 in
theorem mk_11_37 : MK 11 (183, 171, 0, 1753) := Or.inl ⟨Nat.le_of_ble_eq_true rfl, rfl, mt_7 (i := 202) rfl⟩
set_option maxRecDepth 20000 in
theorem mk_11_38 : MK 11 (193, 173, 0, 1493) := Or.inl ⟨Nat.le_of_ble_eq_true rfl, rfl, mt_6 (i := 182) rfl⟩
set_option maxRecDepth 20000 in
theorem mk_11_39 : MK 11 (211, 177, 0, 1413) := Or.inl ⟨Nat.le_of_ble_eq_true rfl, rfl, mt_6 (i := 102) rfl⟩
set_option maxRecDepth 20000 in
theorem mk_11_40 : MK 11 (214, 178, 0, 1417) := Or.inl ⟨Nat.le_of_ble_eq_true rfl, rfl, mt_6 (i := 106) rfl⟩
set_option maxRecDepth 20000 in
theorem mk_11_41 : MK 11 (217, 501, 0, 1420) := Or.inr (Or.inr (Or.inl ⟨Nat.le_of_ble_eq_true rfl, Nat.le_of_ble_eq_true rfl, mt_6 (i := 109) rfl⟩))
set_option maxRecDepth 20000 in
theorem mk_11_42 : MK 11 (222, 502, 0, 1421) := Or.inr (Or.inr (Or.inl ⟨Nat.le_of_ble_eq_true rfl, Nat.le_of_ble_eq_true rfl, mt_6 (i := 110) rfl⟩))
set_option maxRecDepth 20000 in
theorem mk_11_43 : MK 11 (226, 176, 0, 1422) := Or.inl ⟨Nat.le_of_ble_eq_true rfl, rfl, mt_6 (i := 111) rfl⟩
set_option maxRecDepth 20000 in
theorem mk_11_44 : MK 11 (235, 182, 0, 1443) := Or.inl ⟨Nat.le_of_ble_eq_true rfl, rfl, mt_6 (i := 132) rfl⟩
set_option maxRecDepth 20000 in
theorem mk_11_45 : MK 11 (238, 181, 0, 1435) := Or.inl ⟨Nat.le_of_ble_eq_true rfl, rfl, mt_6 (i := 124) rfl⟩
set_option maxRecDepth 20000 in
theorem mk_11_46 : MK 11 (242, 185, 0, 1459) := Or.inl ⟨Nat.le_of_ble_eq_true rfl, rfl, mt_6 (i := 148) rfl⟩
set_option maxRecDepth 20000 in
theorem mk_11_47 : MK 11 (245, 183, 0, 1447) := Or.inl ⟨Nat.le_of_ble_eq_true rfl, rfl, mt_6 (i := 136) rfl⟩
set_option maxRecDepth 20000 in
theorem mk_11_48 : MK 11 (248, 187, 0, 1451) := Or.inl ⟨Nat.le_of_ble_eq_true rfl, rfl, mt_6 (i := 140) rfl⟩
set_option maxRecDepth 20000 in
theorem mk_11_49 : MK 11 (254, 186, 0, 1455) := Or.inl ⟨Nat.le_of_ble_eq_true rfl, rfl, mt_6 (i := 144) rfl⟩
set_option maxRecDepth 20000 in
theorem mk_11_50 : MK 11 (257, 180, 0, 1426) := Or.inl ⟨Nat.le_of_ble_eq_true rfl, rfl, mt_6 (i := 115) rfl⟩
set_option maxRecDepth 20000 in
theorem mk_11_51 : MK 11 (262, 179, 0, 1409) := Or.inl ⟨Nat.le_of_ble_eq_true rfl, rfl, mt_6 (i := 98) rfl⟩
set_option maxRecDepth 20000 in
theorem mk_11_52 : MK 11 (266, 184, 0, 1439) := Or.inl ⟨Nat.le_of_ble_eq_true rfl, rfl, mt_6 (i := 128) rfl⟩
set_option maxRecDepth 20000 in
theorem mk_11_53 : MK 11 (269, 174, 0, 1485) := Or.inl ⟨Nat.le_of_ble_eq_true rfl, rfl, mt_6 (i := 174) rfl⟩
set_option maxRecDepth 20000 in
theorem mk_11_54 : MK 11 (272, 190, 0, 1501) := Or.inl ⟨Nat.le_of_ble_eq_true rfl, rfl, mt_6 (i := 190) rfl⟩
set_option maxRecDepth 20000 in
theorem mk_11_55 : MK 11 (277, 189, 0, 1472) := Or.inl ⟨Nat.le_of_ble_eq_true rfl, rfl, mt_6 (i := 161) rfl⟩
set_option maxRecDepth 20000 in
theorem mk_11_56 : MK 11 (280, 191, 0, 1481) := Or.inl ⟨Nat.le_of_ble_eq_true rfl, rfl, mt_6 (i := 170) rfl⟩
set_option maxRecDepth 20000 in
theorem mk_11_57 : MK 11 (283, 193, 0, 1505) := Or.inl ⟨Nat.le_of_ble_eq_true rfl, rfl, mt_6 (i := 194) rfl⟩
set_option maxRecDepth 20000 in
theorem mk_11_58 : MK 11 (286, 162, 0, 1509) := Or.inl ⟨Nat.le_of_ble_eq_true rfl, rfl, mt_6 (i := 198) rfl⟩
set_option maxRecDepth 20000 in
theorem mk_11_59 : MK 11 (291, 163, 0, 1566) := Or.inl ⟨Nat.le_of_ble_eq_true rfl, rfl, mt_7 (i := 15) rfl⟩
set_option maxRecDepth 20000 in
theorem mk_11_60 : MK 11 (305, 169, 0, 1575) := Or.inl ⟨Nat.le_of_ble_eq_true rfl, rfl, mt_7 (i := 24) rfl⟩
set_option maxRecDepth 20000 in
theorem mk_11_61 : MK 11 (310, 188, 0, 1430) := Or.inl ⟨Nat.le_of_ble_eq_true rfl, rfl, mt_6 (i := 119) rfl⟩
set_option maxRecDepth 20000 in
theorem mk_11_62 : MK 11 (314, 192, 0, 1476) := Or.inl ⟨Nat.le_of_ble_eq_true rfl, rfl, mt_6 (i := 165) rfl⟩
set_option maxRecDepth 20000 in
theorem mk_11_63 : MK 11 (317, 134, 0, 1400) := Or.inl ⟨Nat.le_of_ble_eq_true rfl, rfl, mt_6 (i := 89) rfl⟩
set_option maxRecDepth 20000 in
theorem mk_11_64 : MK 11 (321, 194, 0, 1404) := Or.inl ⟨Nat.le_of_ble_eq_true rfl, rfl, mt_6 (i := 93) rfl⟩
set_option maxRecDepth 20000 in
theorem mk_11_65 : MK 11 (324, 133, 0, 1583) := Or.inl ⟨Nat.le_of_ble_eq_true rfl, rfl, mt_7 (i := 32) rfl⟩
set_option maxRecDepth 20000 in
theorem mk_11_66 : MK 11 (327, 197, 0, 1604) := Or.inl ⟨Nat.le_of_ble_eq_true rfl, rfl, mt_7 (i := 53) rfl⟩
set_option maxRecDepth 20000 in
theorem mk_11_67 : MK 11 (332, 198, 0, 1600) := Or.inl ⟨Nat.le_of_ble_eq_true rfl, rfl, mt_7 (i := 49) rfl⟩
set_option maxRecDepth 20000 in
theorem mk_11_68 : MK 11 (335, 200, 0, 1612) := Or.inl ⟨Nat.le_of_ble_eq_true rfl, rfl, mt_7 (i := 61) rfl⟩
set_option maxRecDepth 20000 in
theorem mk_11_69 : MK 11 (338, 203, 0, 1624) := Or.inl ⟨Nat.le_of_ble_eq_true rfl, rfl, mt_7 (i := 73) rfl⟩
set_option maxRecDepth 20000 in
theorem mk_11_70 : MK 11 (341, 204, 0, 1640) := Or.inl ⟨Nat.le_of_ble_eq_true rfl, rfl, mt_7 (i := 89) rfl⟩
set_option maxRecDepth 20000 in
theorem mk_11_71 : MK 11 (344, 209, 0, 1656) := Or.inl ⟨Nat.le_of_ble_eq_true rfl, rfl, mt_7 (i := 105) rfl⟩
set_option maxRecDepth 20000 in
theorem mk_11_72 : MK 11 (347, 210, 0, 1660) := Or.inl ⟨Nat.le_of_ble_eq_true rfl, rfl, mt_7 (i := 109) rfl⟩
set_option maxRecDepth 20000 in
theorem mk_11_73 : MK 11 (350, 211, 0, 1652) := Or.inl ⟨Nat.le_of_ble_eq_true rfl, rfl, mt_7 (i := 101) rfl⟩
set_option maxRecDepth 20000 in
theorem mk_11_74 : MK 11 (356, 216, 0, 1684) := Or.inl ⟨Nat.le_of_ble_eq_true rfl, rfl, mt_7 (i := 133) rfl⟩
set_option maxRecDepth 20000 in
theorem mk_11_75 : MK 11 (359, 217, 0, 1680) := Or.inl ⟨Nat.le_of_ble_eq_true rfl, rfl, mt_7 (i := 129) rfl⟩
set_option maxRecDepth 20000 in
theorem mk_11_76 : MK 11 (362, 165, 0, 1704) := Or.inl ⟨Nat.le_of_ble_eq_true rfl, rfl, mt_7 (i := 153) rfl⟩
set_option maxRecDepth 20000 in
theorem mk_11_77 : MK 11 (365, 167, 0, 1724) := Or.inl ⟨Nat.le_of_ble_eq_true rfl, rfl, mt_7 (i := 173) rfl⟩
set_option maxRecDepth 20000 in
theorem mk_11_78 : MK 11 (370, 172, 0, 1745) := Or.inl ⟨Nat.le_of_ble_eq_true rfl, rfl, mt_7 (i := 194) rfl⟩
set_option maxRecDepth 20000 in
theorem mk_11_79 : MK 11 (380, 228, 0, 1769) := Or.inl ⟨Nat.le_of_ble_eq_true rfl, rfl, mt_7 (i := 218) rfl⟩
set_option maxRecDepth 20000 in
theorem mk_11 : ∀ e ∈ mTL.getD 11 [], MK 11 e := List.forall_mem_cons.mpr ⟨mk_11_0, List.forall_mem_cons.mpr ⟨mk_11_1, List.forall_mem_cons.mpr ⟨mk_11_2, List.forall_mem_cons.mpr ⟨mk_11_3, List.forall_mem_cons.mpr ⟨mk_11_4, List.forall_mem_cons.mpr ⟨mk_11_5, List.forall_mem_cons.mpr ⟨mk_11_6, List.forall_mem_cons.mpr ⟨mk_11_7, List.forall_mem_cons.mpr ⟨mk_11_8, List.forall_mem_cons.mpr ⟨mk_11_9, List.forall_mem_cons.mpr ⟨mk_11_10, List.forall_mem_cons.mpr ⟨mk_11_11, List.forall_mem_cons.mpr ⟨mk_11_12, List.forall_mem_cons.mpr ⟨mk_11_13, List.forall_mem_cons.mpr ⟨mk_11_14, List.forall_mem_cons.mpr ⟨mk_11_15, List.forall_mem_cons.mpr ⟨mk_11_16, List.forall_mem_cons.mpr ⟨mk_11_17, List.forall_mem_cons.mpr ⟨mk_11_18, List.forall_mem_cons.mpr ⟨mk_11_19, List.forall_mem_cons.mpr ⟨mk_11_20, List.forall_mem_cons.mpr ⟨mk_11_21, List.forall_mem_cons.mpr ⟨mk_11_22, List.forall_mem_cons.mpr ⟨mk_11_23, List.forall_mem_cons.mpr ⟨mk_11_24, List.forall_mem_cons.mpr ⟨mk_11_25, List.forall_mem_cons.mpr ⟨mk_11_26, List.forall_mem_cons.mpr ⟨mk_11_27, List.forall_mem_cons.mpr ⟨mk_11_28, List.forall_mem_cons.mpr ⟨mk_11_29, List.forall_mem_cons.mpr ⟨mk_11_30, List.forall_mem_cons.mpr ⟨mk_11_31, List.forall_mem_cons.mpr ⟨mk_11_32, List.forall_mem_cons.mpr ⟨mk_11_33, List.forall_mem_cons.mpr ⟨mk_11_34, List.forall_mem_cons.mpr ⟨mk_11_35, List.forall_mem_cons.mpr ⟨mk_11_36, List.forall_mem_cons.mpr ⟨mk_11_37, List.forall_mem_cons.mpr ⟨mk_11_38, List.forall_mem_cons.mpr ⟨mk_11_39, List.forall_mem_cons.mpr ⟨mk_11_40, List.forall_mem_cons.mpr ⟨mk_11_41, List.forall_mem_cons.mpr ⟨mk_11_42, List.forall_mem_cons.mpr ⟨mk_11_43, List.forall_mem_cons.mpr ⟨mk_11_44, List.forall_mem_cons.mpr ⟨mk_11_45, List.forall_mem_cons.mpr ⟨mk_11_46, List.forall_mem_cons.mpr ⟨mk_11_47, List.forall_mem_cons.mpr ⟨mk_11_48, List.forall_mem_cons.mpr ⟨mk_11_49, List.forall_mem_cons.mpr ⟨mk_11_50, List.forall_mem_cons.mpr ⟨mk_11_51, List.forall_mem_cons.mpr ⟨mk_11_52, List.forall_mem_cons.mpr ⟨mk_11_53, List.forall_mem_cons.mpr ⟨mk_11_54, List.forall_mem_cons.mpr ⟨mk_11_55, List.forall_mem_cons.mpr ⟨mk_11_56, List.forall_mem_cons.mpr ⟨mk_11_57, List.forall_mem_cons.mpr ⟨mk_11_58, List.forall_mem_cons.mpr ⟨mk_11_59, List.forall_mem_cons.mpr ⟨mk_11_60, List.forall_mem_cons.mpr ⟨mk_11_61, List.forall_mem_cons.mpr ⟨mk_11_62, List.forall_mem_cons.mpr ⟨mk_11_63, List.forall_mem_cons.mpr ⟨mk_11_64, List.forall_mem_cons.mpr ⟨mk_11_65, List.forall_mem_cons.mpr ⟨mk_11_66, List.forall_mem_cons.mpr ⟨mk_11_67, List.forall_mem_cons.mpr ⟨mk_11_68, List.forall_mem_cons.mpr ⟨mk_11_69, List.forall_mem_cons.mpr ⟨mk_11_70, List.forall_mem_cons.mpr ⟨mk_11_71, List.forall_mem_cons.mpr ⟨mk_11_72, List.forall_mem_cons.mpr ⟨mk_11_73, List.forall_mem_cons.mpr ⟨mk_11_74, List.forall_mem_cons.mpr ⟨mk_11_75, List.forall_mem_cons.mpr ⟨mk_11_76, List.forall_mem_cons.mpr ⟨mk_11_77, List.forall_mem_cons.mpr ⟨mk_11_78, List.forall_mem_cons.mpr ⟨mk_11_79, fun _ h => absurd h List.not_mem_nil⟩⟩⟩⟩⟩⟩⟩⟩⟩⟩⟩⟩⟩⟩⟩⟩⟩⟩⟩⟩⟩⟩⟩⟩⟩⟩⟩⟩⟩⟩⟩⟩⟩⟩⟩⟩⟩⟩⟩⟩⟩⟩⟩⟩⟩⟩⟩⟩⟩⟩⟩⟩⟩⟩⟩⟩⟩⟩⟩⟩⟩⟩⟩⟩⟩⟩⟩⟩⟩⟩⟩⟩⟩⟩⟩⟩⟩⟩⟩⟩
set_option maxRecDepth 20000 in
theorem mk_12_0 : MK 12 (7, 95, 0, 637) := Or.inl ⟨Nat.le_of_ble_eq_true rfl, rfl, mt_3 (i := 46) rfl⟩
set_option maxRecDepth 20000 in
theorem mk_12_1 : MK 12 (15, 98, 0, 962) := Or.inl ⟨Nat.le_of_ble_eq_true rfl, rfl, mt_4 (i := 131) rfl⟩
set_option maxRecDepth 20000 in
theorem mk_12_2 : MK 12 (18, 99, 0, 971) := Or.inl ⟨Nat.le_of_ble_eq_true rfl, rfl, mt_4 (i := 140) rfl⟩
set_option maxRecDepth 20000 in
theorem mk_12_3 : MK 12 (23, 100, 0, 998) := Or.inl ⟨Nat.le_of_ble_eq_true rfl, rfl, mt_4 (i := 167) rfl⟩
set_option maxRecDepth 20000 in
theorem mk_12_4 : MK 12 (27, 102, 0, 1007) := Or.inl ⟨Nat.le_of_ble_eq_true rfl, rfl, mt_4 (i := 176) rfl⟩
set_option maxRecDepth 20000 in
theorem mk_12_5 : MK 12 (32, 105, 0, 1036) := Or.inl ⟨Nat.le_of_ble_eq_true rfl, rfl, mt_4 (i := 205) rfl⟩
set_option maxRecDepth 20000 in
theorem mk_12_6 : MK 12 (35, 106, 0, 1044) := Or.inl ⟨Nat.le_of_ble_eq_true rfl, rfl, mt_4 (i := 213) rfl⟩
set_option maxRecDepth 20000 in
theorem mk_12_7 : MK 12 (38, 107, 0, 1058) := Or.inl ⟨Nat.le_of_ble_eq_true rfl, rfl, mt_4 (i := 227) rfl⟩
set_option maxRecDepth 20000 in
theorem mk_12_8 : MK 12 (41, 109, 0, 1072) := Or.inl ⟨Nat.le_of_ble_eq_true rfl, rfl, mt_5 (i := 1) rfl⟩
set_option maxRecDepth 20000 in
theorem mk_12_9 : MK 12 (44, 110, 0, 1079) := Or.inl ⟨Nat.le_of_ble_eq_true rfl, rfl, mt_5 (i := 8) rfl⟩
set_option maxRecDepth 20000 in
theorem mk_12_10 : MK 12 (48, 111, 0, 1090) := Or.inl ⟨Nat.le_of_ble_eq_true rfl, rfl, mt_5 (i := 19) rfl⟩
set_option maxRecDepth 20000 in
theorem mk_12_11 : MK 12 (51, 112, 0, 1097) := Or.inl ⟨Nat.le_of_ble_eq_true rfl, rfl, mt_5 (i := 26) rfl⟩
set_option maxRecDepth 20000 in
theorem mk_12_12 : MK 12 (54, 113, 0, 1105) := Or.inl ⟨Nat.le_of_ble_eq_true rfl, rfl, mt_5 (i := 34) rfl⟩
set_option maxRecDepth 20000 in
theorem mk_12_13 : MK 12 (57, 114, 0, 1138) := Or.inl ⟨Nat.le_of_ble_eq_true rfl, rfl, mt_5 (i := 67) rfl⟩
set_option maxRecDepth 20000 in
theorem mk_12_14 : MK 12 (60, 115, 0, 1146) := Or.inl ⟨Nat.le_of_ble_eq_true rfl, rfl, mt_5 (i := 75) rfl⟩
set_option maxRecDepth 20000 in
theorem mk_12_15 : MK 12 (64, 116, 0, 1154) := Or.inl ⟨Nat.le_of_ble_eq_true rfl, rfl, mt_5 (i := 83) rfl⟩
set_option maxRecDepth 20000 in
theorem mk_12_16 : MK 12 (68, 117, 0, 1162) := Or.inl ⟨Nat.le_of_ble_eq_true rfl, rfl, mt_5 (i := 91) rfl⟩
set_option maxRecDepth 20000 in
theorem mk_12_17 : MK 12 (71, 118, 0, 1186) := Or.inl ⟨Nat.le_of_ble_eq_true rfl, rfl, mt_5 (i := 115) rfl⟩
set_option maxRecDepth 20000 in
theorem mk_12_18 : MK 12 (74, 119, 0, 1209) := Or.inl ⟨Nat.le_of_ble_eq_true rfl, rfl, mt_5 (i := 138) rfl⟩
set_option maxRecDepth 20000 in
theorem mk_12_19 : MK 12 (77, 120, 0, 1218) := Or.inl ⟨Nat.le_of_ble_eq_true rfl, rfl, mt_5 (i := 147) rfl⟩
set_option maxRecDepth 20000 in
theorem mk_12_20 : MK 12 (81, 121, 0, 1234) := Or.inl ⟨Nat.le_of_ble_eq_true rfl, rfl, mt_5 (i := 163) rfl⟩
set_option maxRecDepth 20000 in
theorem mk_12_21 : MK 12 (87, 93, 0, 139) := Or.inl ⟨Nat.le_of_ble_eq_true rfl, rfl, mt_1 (i := 28) rfl⟩
set_option maxRecDepth 20000 in
theorem mk_12_22 : MK 12 (90, 126, 0, 1260) := Or.inl ⟨Nat.le_of_ble_eq_true rfl, rfl, mt_5 (i := 189) rfl⟩
set_option maxRecDepth 20000 in
theorem mk_12_23 : MK 12 (91, 94, 0, 521) := Or.inl ⟨Nat.le_of_ble_eq_true rfl, rfl, mt_2 (i := 170) rfl⟩
set_option maxRecDepth 20000 in
theorem mk_12_24 : MK 12 (95, 175, 0, 1389) := Or.inl ⟨Nat.le_of_ble_eq_true rfl, rfl, mt_6 (i := 78) rfl⟩
set_option maxRecDepth 20000 in
theorem mk_12_25 : MK 12 (96, 230, 0, 633) := Or.inl ⟨Nat.le_of_ble_eq_true rfl, rfl, mt_3 (i := 42) rfl⟩
set_option maxRecDepth 20000 in
theorem mk_12_26 : MK 12 (101, 195, 0, 1393) := Or.inl ⟨Nat.le_of_ble_eq_true rfl, rfl, mt_6 (i := 82) rfl⟩
set_option maxRecDepth 20000 in
theorem mk_12_27 : MK 12 (102, 127, 0, 1385) := Or.inl ⟨Nat.le_of_ble_eq_true rfl, rfl, mt_6 (i := 74) rfl⟩
set_option maxRecDepth 20000 in
theorem mk_12_28 : MK 12 (105, 97, 0, 533) := Or.inl ⟨Nat.le_of_ble_eq_true rfl, rfl, mt_2 (i := 182) rfl⟩
set_option maxRecDepth 20000 in
theorem mk_12_29 : MK 12 (108, 196, 0, 1591) := Or.inl ⟨Nat.le_of_ble_eq_true rfl, rfl, mt_7 (i := 40) rfl⟩
set_option maxRecDepth 20000 in
theorem mk_12_30 : MK 12 (109, 231, 0, 959) := Or.inl ⟨Nat.le_of_ble_eq_true rfl, rfl, mt_4 (i := 128) rfl⟩
set_option maxRecDepth 20000 in
theorem mk_12_31 : MK 12 (111, 199, 0, 1595) := Or.inl ⟨Nat.le_of_ble_eq_true rfl, rfl, mt_7 (i := 44) rfl⟩
set_option maxRecDepth 20000 in
theorem mk_12_32 : MK 12 (112, 232, 0, 967) := Or.inl ⟨Nat.le_of_ble_eq_true rfl, rfl, mt_4 (i := 136) rfl⟩
set_option maxRecDepth 20000 in
theorem mk_12_33 : MK 12 (114, 201, 0, 1608) := Or.inl ⟨Nat.le_of_ble_eq_true rfl, rfl, mt_7 (i := 57) rfl⟩
set_option maxRecDepth 20000 in
theorem mk_12_34 : MK 12 (115, 233, 0, 995) := Or.inl ⟨Nat.le_of_ble_eq_true rfl, rfl, mt_4 (i := 164) rfl⟩
set_option maxRecDepth 20000 in
theorem mk_12_35 : MK 12 (118, 202, 0, 1616) := Or.inl ⟨Nat.le_of_ble_eq_true rfl, rfl, mt_7 (i := 65) rfl⟩
set_option maxRecDepth 20000 in
theorem mk_12_36 : MK 12 (119, 234, 0, 1003) := Or.inl ⟨Nat.le_of_ble_eq_true rfl, rfl, mt_4 (i := 172) rfl⟩
set_option maxRecDepth 20000 in
theorem mk_12_37 : MK 12 (121, 205, 0, 1620) := Or.inl ⟨Nat.le_of_ble_eq_true rfl, rfl, mt_7 (i := 69) rfl⟩
set_option maxRecDepth 20000 in
theorem mk_12_38 : MK 12 (122, 235, 0, 1033) := Or.inl ⟨Nat.le_of_ble_eq_true rfl, rfl, mt_4 (i := 202) rfl⟩
set_option maxRecDepth 20000 in
theorem mk_12_39 : MK 12 (124, 206, 0, 1632) := Or.inl ⟨Nat.le_of_ble_eq_true rfl, rfl, mt_7 (i := 81) rfl⟩
set_option maxRecDepth 20000 in
theorem mk_12_40 : MK 12 (125, 236, 0, 1041) := Or.inl ⟨Nat.le_of_ble_eq_true rfl, rfl, mt_4 (i := 210) rfl⟩
set_option maxRecDepth 20000 in
theorem mk_12_41 : MK 12 (127, 207, 0, 1636) := Or.inl ⟨Nat.le_of_ble_eq_true rfl, rfl, mt_7 (i := 85) rfl⟩
set_option maxRecDepth 20000 in
theorem mk_12_42 : MK 12 (128, 237, 0, 1055) := Or.inl ⟨Nat.le_of_ble_eq_true rfl, rfl, mt_4 (i := 224) rfl⟩
set_option maxRecDepth 20000 in
theorem mk_12_43 : MK 12 (130, 208, 0, 1644) := Or.inl ⟨Nat.le_of_ble_eq_true rfl, rfl, mt_7 (i := 93) rfl⟩
set_option maxRecDepth 20000 in
theorem mk_12_44 : MK 12 (131, 238, 0, 1069) := Or.inl ⟨Nat.le_of_ble_eq_true rfl, rfl, mt_4 (i := 238) rfl⟩
set_option maxRecDepth 20000 in
theorem mk_12_45 : MK 12 (133, 212, 0, 1648) := Or.inl ⟨Nat.le_of_ble_eq_true rfl, rfl, mt_7 (i := 97) rfl⟩
set_option maxRecDepth 20000 in
theorem mk_12_46 : MK 12 (134, 239, 0, 1076) := Or.inl ⟨Nat.le_of_ble_eq_true rfl, rfl, mt_5 (i := 5) rfl⟩
set_option maxRecDepth 20000 in
theorem mk_12_47 : MK 12 (136, 213, 0, 1664) := Or.inl ⟨Nat.le_of_ble_eq_true rfl, rfl, mt_7 (i := 113) rfl⟩
set_option maxRecDepth 20000 in
theorem mk_12_48 : MK 12 (137, 240, 0, 1087) := Or.inl ⟨Nat.le_of_ble_eq_true rfl, rfl, mt_5 (i := 16) rfl⟩
set_option maxRecDepth 20000 in
theorem mk_12_49 : MK 12 (139, 214, 0, 1668) := Or.inl ⟨Nat.le_of_ble_eq_true rfl, rfl, mt_7 (i := 117) rfl⟩
set_option maxRecDepth 20000 in
theorem mk_12_50 : MK 12 (140, 241, 0, 1094) := Or.inl ⟨Nat.le_of_ble_eq_true rfl, rfl, mt_5 (i := 23) rfl⟩
set_option maxRecDepth 20000 in
theorem mk_12_51 : MK 12 (142, 215, 0, 1672) := Or.inl ⟨Nat.le_of_ble_eq_true rfl, rfl, mt_7 (i := 121) rfl⟩
set_option maxRecDepth 20000 in
theorem mk_12_52 : MK 12 (143, 242, 0, 1102) := Or.inl ⟨Nat.le_of_ble_eq_true rfl, rfl, mt_5 (i := 31) rfl⟩
set_option maxRecDepth 20000 in
theorem mk_12_53 : MK 12 (145, 218, 0, 1676) := Or.inl ⟨Nat.le_of_ble_eq_true rfl, rfl, mt_7 (i := 125) rfl⟩
set_option maxRecDepth 20000 in
theorem mk_12_54 : MK 12 (146, 243, 0, 1135) := Or.inl ⟨Nat.le_of_ble_eq_true rfl, rfl, mt_5 (i := 64) rfl⟩
set_option maxRecDepth 20000 in
theorem mk_12_55 : MK 12 (148, 219, 0, 1688) := Or.inl ⟨Nat.le_of_ble_eq_true rfl, rfl, mt_7 (i := 137) rfl⟩
set_option maxRecDepth 20000 in
theorem mk_12_56 : MK 12 (149, 244, 0, 1143) := Or.inl ⟨Nat.le_of_ble_eq_true rfl, rfl, mt_5 (i := 72) rfl⟩
set_option maxRecDepth 20000 in
theorem mk_12_57 : MK 12 (152, 220, 0, 1692) := Or.inl ⟨Nat.le_of_ble_eq_true rfl, rfl, mt_7 (i := 141) rfl⟩
set_option maxRecDepth 20000 in
theorem mk_12_58 : MK 12 (153, 245, 0, 1151) := Or.inl ⟨Nat.le_of_ble_eq_true rfl, rfl, mt_5 (i := 80) rfl⟩
set_option maxRecDepth 20000 in
theorem mk_12_59 : MK 12 (156, 221, 0, 1696) := Or.inl ⟨Nat.le_of_ble_eq_true rfl, rfl, mt_7 (i := 145) rfl⟩
set_option maxRecDepth 20000 in
theorem mk_12_60 : MK 12 (157, 246, 0, 1159) := Or.inl ⟨Nat.le_of_ble_eq_true rfl, rfl, mt_5 (i := 88) rfl⟩
set_option maxRecDepth 20000 in
theorem mk_12_61 : MK 12 (159, 222, 0, 1700) := Or.inl ⟨Nat.le_of_ble_eq_true rfl, rfl, mt_7 (i := 149) rfl⟩
set_option maxRecDepth 20000 in
theorem mk_12_62 : MK 12 (160, 247, 0, 1183) := Or.inl ⟨Nat.le_of_ble_eq_true rfl, rfl, mt_5 (i := 112) rfl⟩
set_option maxRecDepth 20000 in
theorem mk_12_63 : MK 12 (162, 223, 0, 1720) := Or.inl ⟨Nat.le_of_ble_eq_true rfl, rfl, mt_7 (i := 169) rfl⟩
set_option maxRecDepth 20000 in
theorem mk_12_64 : MK 12 (163, 248, 0, 1206) := Or.inl ⟨Nat.le_of_ble_eq_true rfl, rfl, mt_5 (i := 135) rfl⟩
set_option maxRecDepth 20000 in
theorem mk_12_65 : MK 12 (165, 224, 0, 1736) := Or.inl ⟨Nat.le_of_ble_eq_true rfl, rfl, mt_7 (i := 185) rfl⟩
set_option maxRecDepth 20000 in
theorem mk_12_66 : MK 12 (166, 249, 0, 1215) := Or.inl ⟨Nat.le_of_ble_eq_true rfl, rfl, mt_5 (i := 144) rfl⟩
set_option maxRecDepth 20000 in
theorem mk_12_67 : MK 12 (169, 225, 0, 1741) := Or.inl ⟨Nat.le_of_ble_eq_true rfl, rfl, mt_7 (i := 190) rfl⟩
set_option maxRecDepth 20000 in
theorem mk_12_68 : MK 12 (170, 250, 0, 1230) := Or.inl ⟨Nat.le_of_ble_eq_true rfl, rfl, mt_5 (i := 159) rfl⟩
set_option maxRecDepth 20000 in
theorem mk_12_69 : MK 12 (173, 226, 0, 1757) := Or.inl ⟨Nat.le_of_ble_eq_true rfl, rfl, mt_7 (i := 206) rfl⟩
set_option maxRecDepth 20000 in
theorem mk_12_70 : MK 12 (174, 122, 0, 537) := Or.inl ⟨Nat.le_of_ble_eq_true rfl, rfl, mt_2 (i := 186) rfl⟩
set_option maxRecDepth 20000 in
theorem mk_12_71 : MK 12 (177, 227, 0, 1761) := Or.inl ⟨Nat.le_of_ble_eq_true rfl, rfl, mt_7 (i := 210) rfl⟩
set_option maxRecDepth 20000 in
theorem mk_12_72 : MK 12 (178, 123, 0, 557) := Or.inl ⟨Nat.le_of_ble_eq_true rfl, rfl, mt_2 (i := 206) rfl⟩
set_option maxRecDepth 20000 in
theorem mk_12_73 : MK 12 (182, 229, 0, 1765) := Or.inl ⟨Nat.le_of_ble_eq_true rfl, rfl, mt_7 (i := 214) rfl⟩
set_option maxRecDepth 20000 in
theorem mk_12 : ∀ e ∈ mTL.getD 12 [], MK 12 e := List.forall_mem_cons.mpr ⟨mk_12_0, List.forall_mem_cons.mpr ⟨mk_12_1, List.forall_mem_cons.mpr ⟨mk_12_2, List.forall_mem_cons.mpr ⟨mk_12_3, List.forall_mem_cons.mpr ⟨mk_12_4, List.forall_mem_cons.mpr ⟨mk_12_5, List.forall_mem_cons.mpr ⟨mk_12_6, List.forall_mem_cons.mpr ⟨mk_12_7, List.forall_mem_cons.mpr ⟨mk_12_8, List.forall_mem_cons.mpr ⟨mk_12_9, List.forall_mem_cons.mpr ⟨mk_12_10, List.forall_mem_cons.mpr ⟨mk_12_11, List.forall_mem_cons.mpr ⟨mk_12_12, List.forall_mem_cons.mpr ⟨mk_12_13, List.forall_mem_cons.mpr ⟨mk_12_14, List.forall_mem_cons.mpr ⟨mk_12_15, List.forall_mem_cons.mpr ⟨mk_12_16, List.forall_mem_cons.mpr ⟨mk_12_17, List.forall_mem_cons.mpr ⟨mk_12_18, List.forall_mem_cons.mpr ⟨mk_12_19, List.forall_mem_cons.mpr ⟨mk_12_20, List.forall_mem_cons.mpr ⟨mk_12_21, List.forall_mem_cons.mpr ⟨mk_12_22, List.forall_mem_cons.mpr ⟨mk_12_23, List.forall_mem_cons.mpr ⟨mk_12_24, List.forall_mem_cons.mpr ⟨mk_12_25, List.forall_mem_cons.mpr ⟨mk_12_26, List.forall_mem_cons.mpr ⟨mk_12_27, List.forall_mem_cons.mpr ⟨mk_12_28, List.forall_mem_cons.mpr ⟨mk_12_29, List.forall_mem_cons.mpr ⟨mk_12_30, List.forall_mem_cons.mpr ⟨mk_12_31, List.forall_mem_cons.mpr ⟨mk_12_32, List.forall_mem_cons.mpr ⟨mk_12_33, List.forall_mem_cons.mpr ⟨mk_12_34, List.forall_mem_cons.mpr ⟨mk_12_35, List.forall_mem_cons.mpr ⟨mk_12_36, List.forall_mem_cons.mpr ⟨mk_12_37, List.forall_mem_cons.mpr ⟨mk_12_38, List.forall_mem_cons.mpr ⟨mk_12_39, List.forall_mem_cons.mpr ⟨mk_12_40, List.forall_mem_cons.mpr ⟨mk_12_41, List.forall_mem_cons.mpr ⟨mk_12_42, List.forall_mem_cons.mpr ⟨mk_12_43, List.forall_mem_cons.mpr ⟨mk_12_44, List.forall_mem_cons.mpr ⟨mk_12_45, List.forall_mem_cons.mpr ⟨mk_12_46, List.forall_mem_cons.mpr ⟨mk_12_47, List.forall_mem_cons.mpr ⟨mk_12_48, List.forall_mem_cons.mpr ⟨mk_12_49, List.forall_mem_cons.mpr ⟨mk_12_50, List.forall_mem_cons.mpr ⟨mk_12_51, List.forall_mem_cons.mpr ⟨mk_12_52, List.forall_mem_cons.mpr ⟨mk_12_53, List.forall_mem_cons.mpr ⟨mk_12_54, List.forall_mem_cons.mpr ⟨mk_12_55, List.forall_mem_cons.mpr ⟨mk_12_56, List.forall_mem_cons.mpr ⟨mk_12_57, List.forall_mem_cons.mpr ⟨mk_12_58, List.forall_mem_cons.mpr ⟨mk_12_59, List.forall_mem_cons.mpr ⟨mk_12_60, List.forall_mem_cons.mpr ⟨mk_12_61, List.forall_mem_cons.mpr ⟨mk_12_62, List.forall_mem_cons.mpr ⟨mk_12_63, List.forall_mem_cons.mpr ⟨mk_12_64, List.forall_mem_cons.mpr ⟨mk_12_65, List.forall_mem_cons.mpr ⟨mk_12_66, List.forall_mem_cons.mpr ⟨mk_12_67, List.forall_mem_cons.mpr ⟨mk_12_68, List.forall_mem_cons.mpr ⟨mk_12_69, List.forall_mem_cons.mpr ⟨mk_12_70, List.forall_mem_cons.mpr ⟨mk_12_71, List.forall_mem_cons.mpr ⟨mk_12_72, List.forall_mem_cons.mpr ⟨mk_12_73, fun _ h => absurd h List.not_mem_nil⟩⟩⟩⟩⟩⟩⟩⟩⟩⟩⟩⟩⟩⟩⟩⟩⟩⟩⟩⟩⟩⟩⟩⟩⟩⟩⟩⟩⟩⟩⟩⟩⟩⟩⟩⟩⟩⟩⟩⟩⟩⟩⟩⟩⟩⟩⟩⟩⟩⟩⟩⟩⟩⟩⟩⟩⟩⟩⟩⟩⟩⟩⟩⟩⟩⟩⟩⟩⟩⟩⟩⟩⟩⟩
set_option maxRecDepth 20000 in
theorem mk_all (cx : Nat) (hc : cx < 13) : ∀ e ∈ mTL.getD cx [], MK cx e := by
  match cx, hc with
  | 0, _ => exact mk_0
  | 1, _ => exact mk_1
  | 2, _ => exact mk_2
  | 3, _ => exact mk_3
  | 4, _ => exact mk_4
  | 5, _ => exact mk_5
  | 6, _ => exact mk_6
  | 7, _ => exact mk_7
  | 8, _ => exact mk_8
  | 9, _ => exact mk_9
  | 10, _ => exact mk_10
  | 11, _ => exact mk_11
  | 12, _ => exact mk_12
def LK (cx : Nat) (e : Nat × Int64 × Nat) : Prop := Cond.constantLong (cnm cx) e.1 e.2.1 ∈ lw_tbl
set_option maxRecDepth 20000 in
theorem lk_0 : ∀ e ∈ lTL.getD 0 [], LK 0 e := fun _ h => absurd h List.not_mem_nil
set_option maxRecDepth 20000 in
theorem lk_1 : ∀ e ∈ lTL.getD 1 [], LK 1 e := fun _ h => absurd h List.not_mem_nil
set_option maxRecDepth 20000 in
theorem lk_2 : ∀ e ∈ lTL.getD 2 [], LK 2 e := fun _ h => absurd h List.not_mem_nil
set_option maxRecDepth 20000 in
theorem lk_3 : ∀ e ∈ lTL.getD 3 [], LK 3 e := fun _ h => absurd h List.not_mem_nil
set_option maxRecDepth 20000 in
theorem lk_4 : ∀ e ∈ lTL.getD 4 [], LK 4 e := fun _ h => absurd h List.not_mem_nil
set_option maxRecDepth 20000 in
theorem lk_5 : ∀ e ∈ lTL.getD 5 [], LK 5 e := fun _ h => absurd h List.not_mem_nil
set_option maxRecDepth 20000 in
theorem lk_6 : ∀ e ∈ lTL.getD 6 [], LK 6 e := fun _ h => absurd h List.not_mem_nil
set_option maxRecDepth 20000 in
theorem lk_7 : ∀ e ∈ lTL.getD 7 [], LK 7 e := fun _ h => absurd h List.not_mem_nil
set_option maxRecDepth 20000 in
theorem lk_8 : ∀ e ∈ lTL.getD 8 [], LK 8 e := fun _ h => absurd h List.not_mem_nil
set_option maxRecDepth 20000 in
theorem lk_9 : ∀ e ∈ lTL.getD 9 [], LK 9 e := fun _ h => absurd h List.not_mem_nil
set_option maxRecDepth 20000 in
theorem lk_10_0 : LK 10 (282, 31, 561) := mt_2 (i := 210) rfl
set_option maxRecDepth 20000 in
theorem lk_10 : ∀ e ∈ lTL.getD 10 [], LK 10 e := List.forall_mem_cons.mpr ⟨lk_10_0, fun _ h => absurd h List.not_mem_nil⟩
set_option maxRecDepth 20000 in
theorem lk_11_0 : LK 11 (330, 8, 1599) := mt_7 (i := 48) rfl
set_option maxRecDepth 20000 in
theorem lk_11_1 : LK 11 (368, 3, 1740) := mt_7 (i := 189) rfl
set_option maxRecDepth 20000 in
theorem lk_11_2 : LK 11 (374, 31, 1773) := mt_7 (i := 222) rfl
set_option maxRecDepth 20000 in
theorem lk_11 : ∀ e ∈ lTL.getD 11 [], LK 11 e := List.forall_mem_cons.mpr ⟨lk_11_0, List.forall_mem_cons.mpr ⟨lk_11_1, List.forall_mem_cons.mpr ⟨lk_11_2, fun _ h => absurd h List.not_mem_nil⟩⟩⟩
set_option maxRecDepth 20000 in
theorem lk_12 : ∀ e ∈ lTL.getD 12 [], LK 12 e := fun _ h => absurd h List.not_mem_nil
set_option maxRecDepth 20000 in
theorem lk_all (cx : Nat) (hc : cx < 13) : ∀ e ∈ lTL.getD cx [], LK cx e := by
  match cx, hc with
  | 0, _ => exact lk_0
  | 1, _ => exact lk_1
  | 2, _ => exact lk_2
  | 3, _ => exact lk_3
  | 4, _ => exact lk_4
  | 5, _ => exact lk_5
  | 6, _ => exact lk_6
  | 7, _ => exact lk_7
  | 8, _ => exact lk_8
  | 9, _ => exact lk_9
  | 10, _ => exact lk_10
  | 11, _ => exact lk_11
  | 12, _ => exact lk_12
def sChk1 (cx : Nat) (e : Nat × Nat) : Bool := decide (e.2 < strN) && (match strL[e.2]? with
  | some (o, k, _) => decide (o = cnm cx) && Nat.beq k e.1
  | none => false)
theorem sChk : (List.range 13).all (fun cx => (sTL.getD cx []).all (sChk1 cx)) = true := by decide +kernel
def SK (e : String × Nat × String) : Prop := Cond.stringRef e.1 e.2.1 e.2.2 ∈ lw_tbl
set_option maxRecDepth 20000 in
theorem sk_all : ∀ e ∈ strL, SK e := List.forall_mem_cons.mpr ⟨mt_3 (i := 144) rfl, List.forall_mem_cons.mpr ⟨mt_3 (i := 213) rfl, List.forall_mem_cons.mpr ⟨mt_3 (i := 215) rfl, List.forall_mem_cons.mpr ⟨mt_4 (i := 21) rfl, List.forall_mem_cons.mpr ⟨mt_4 (i := 89) rfl, List.forall_mem_cons.mpr ⟨mt_4 (i := 102) rfl, List.forall_mem_cons.mpr ⟨mt_4 (i := 107) rfl, List.forall_mem_cons.mpr ⟨mt_4 (i := 108) rfl, List.forall_mem_cons.mpr ⟨mt_4 (i := 109) rfl, List.forall_mem_cons.mpr ⟨mt_4 (i := 110) rfl, List.forall_mem_cons.mpr ⟨mt_6 (i := 123) rfl, List.forall_mem_cons.mpr ⟨mt_6 (i := 169) rfl, List.forall_mem_cons.mpr ⟨mt_7 (i := 14) rfl, List.forall_mem_cons.mpr ⟨mt_7 (i := 19) rfl, List.forall_mem_cons.mpr ⟨mt_7 (i := 20) rfl, List.forall_mem_cons.mpr ⟨mt_7 (i := 21) rfl, List.forall_mem_cons.mpr ⟨mt_7 (i := 22) rfl, List.forall_mem_cons.mpr ⟨mt_7 (i := 23) rfl, List.forall_mem_cons.mpr ⟨mt_6 (i := 97) rfl, List.forall_mem_cons.mpr ⟨mt_6 (i := 160) rfl, fun _ h => absurd h List.not_mem_nil⟩⟩⟩⟩⟩⟩⟩⟩⟩⟩⟩⟩⟩⟩⟩⟩⟩⟩⟩⟩
def hWord (y : Nat) : Cond := match mHan y with
  | [] => .code (mNam y) (mByt y) (mmx y) (mRet y)
  | q :: r => .codeWith (mNam y) (mByt y) (mmx y) (mRet y) (q :: r)
def YF (y : Nat) : Prop := hWord y ∈ lw_tbl ∧ Cond.initialized (cnm (mcx y)) ∈ lw_tbl ∧ (mNam y).cls = cnm (mcx y) ∧ (parseMethodDescriptor (mNam y).desc).map (fun d => d.parameters.length) = some (mna y) ∧
  ((mkd y = 0 ∧ mHan y = [] ∧ Cond.instanceMethod (mNam y) ∈ lw_tbl ∧ Cond.selects (cnm (mcx y)) (mNam y) (mNam y) ∈ lw_tbl) ∨ (mkd y = 1 ∧ Cond.static (mNam y) ∈ lw_tbl) ∨ (mkd y = 2 ∧ mHan y = [] ∧ (mNam y).name = "<init>" ∧ mRet y = none ∧ Cond.instanceMethod (mNam y) ∈ lw_tbl))
set_option maxRecDepth 20000 in
theorem yf_0 : YF 0 := ⟨mt_1 (i := 184) rfl, mt_1 (i := 5) rfl, rfl, by decide +kernel, Or.inr (Or.inr ⟨rfl, rfl, rfl, rfl, mt_1 (i := 183) rfl⟩)⟩
set_option maxRecDepth 20000 in
theorem yf_1 : YF 1 := ⟨mt_4 (i := 43) rfl, mt_1 (i := 5) rfl, rfl, by decide +kernel, Or.inl ⟨rfl, rfl, mt_4 (i := 41) rfl, mt_4 (i := 42) rfl⟩⟩
set_option maxRecDepth 20000 in
theorem yf_2 : YF 2 := ⟨mt_4 (i := 97) rfl, mt_1 (i := 5) rfl, rfl, by decide +kernel, Or.inl ⟨rfl, rfl, mt_4 (i := 95) rfl, mt_4 (i := 96) rfl⟩⟩
set_option maxRecDepth 20000 in
theorem yf_3 : YF 3 := ⟨mt_5 (i := 98) rfl, mt_1 (i := 5) rfl, rfl, by decide +kernel, Or.inl ⟨rfl, rfl, mt_5 (i := 96) rfl, mt_5 (i := 97) rfl⟩⟩
set_option maxRecDepth 20000 in
theorem yf_4 : YF 4 := ⟨mt_5 (i := 102) rfl, mt_1 (i := 5) rfl, rfl, by decide +kernel, Or.inl ⟨rfl, rfl, mt_5 (i := 101) rfl, ms_w (ms_3 (i := 2) rfl) rfl⟩⟩
set_option maxRecDepth 20000 in
theorem yf_5 : YF 5 := ⟨mt_5 (i := 111) rfl, mt_1 (i := 5) rfl, rfl, by decide +kernel, Or.inl ⟨rfl, rfl, mt_5 (i := 110) rfl, ms_w (ms_3 (i := 3) rfl) rfl⟩⟩
set_option maxRecDepth 20000 in
theorem yf_6 : YF 6 := ⟨mt_4 (i := 48) rfl, mt_1 (i := 5) rfl, rfl, by decide +kernel, Or.inl ⟨rfl, rfl, mt_4 (i := 46) rfl, mt_4 (i := 47) rfl⟩⟩
set_option maxRecDepth 20000 in
theorem yf_7 : YF 7 := ⟨mt_4 (i := 64) rfl, mt_1 (i := 5) rfl, rfl, by decide +kernel, Or.inl ⟨rfl, rfl, mt_4 (i := 63) rfl, ms_w (ms_2 (i := 2) rfl) rfl⟩⟩
set_option maxRecDepth 20000 in
theorem yf_8 : YF 8 := ⟨mt_4 (i := 72) rfl, mt_1 (i := 5) rfl, rfl, by decide +kernel, Or.inl ⟨rfl, rfl, mt_4 (i := 71) rfl, ms_w (ms_2 (i := 3) rfl) rfl⟩⟩
set_option maxRecDepth 20000 in
theorem yf_9 : YF 9 := ⟨mt_4 (i := 84) rfl, mt_1 (i := 5) rfl, rfl, by decide +kernel, Or.inl ⟨rfl, rfl, mt_4 (i := 83) rfl, ms_w (ms_2 (i := 5) rfl) rfl⟩⟩
set_option maxRecDepth 20000 in
theorem yf_10 : YF 10 := ⟨mt_4 (i := 80) rfl, mt_1 (i := 5) rfl, rfl, by decide +kernel, Or.inl ⟨rfl, rfl, mt_4 (i := 79) rfl, ms_w (ms_2 (i := 4) rfl) rfl⟩⟩
set_option maxRecDepth 20000 in
theorem yf_11 : YF 11 := ⟨mt_5 (i := 122) rfl, mt_1 (i := 5) rfl, rfl, by decide +kernel, Or.inl ⟨rfl, rfl, mt_5 (i := 120) rfl, mt_5 (i := 121) rfl⟩⟩
set_option maxRecDepth 20000 in
theorem yf_12 : YF 12 := ⟨mt_5 (i := 134) rfl, mt_1 (i := 5) rfl, rfl, by decide +kernel, Or.inl ⟨rfl, rfl, mt_5 (i := 133) rfl, ms_w (ms_3 (i := 5) rfl) rfl⟩⟩
set_option maxRecDepth 20000 in
theorem yf_13 : YF 13 := ⟨mt_4 (i := 114) rfl, mt_1 (i := 5) rfl, rfl, by decide +kernel, Or.inl ⟨rfl, rfl, mt_4 (i := 112) rfl, mt_4 (i := 113) rfl⟩⟩
set_option maxRecDepth 20000 in
theorem yf_14 : YF 14 := ⟨mt_4 (i := 118) rfl, mt_1 (i := 5) rfl, rfl, by decide +kernel, Or.inl ⟨rfl, rfl, mt_4 (i := 117) rfl, ms_w (ms_2 (i := 10) rfl) rfl⟩⟩
set_option maxRecDepth 20000 in
theorem yf_15 : YF 15 := ⟨mt_5 (i := 154) rfl, mt_1 (i := 5) rfl, rfl, by decide +kernel, Or.inl ⟨rfl, rfl, mt_5 (i := 152) rfl, mt_5 (i := 153) rfl⟩⟩
set_option maxRecDepth 20000 in
theorem yf_16 : YF 16 := ⟨mt_5 (i := 158) rfl, mt_1 (i := 5) rfl, rfl, by decide +kernel, Or.inl ⟨rfl, rfl, mt_5 (i := 157) rfl, ms_w (ms_3 (i := 6) rfl) rfl⟩⟩
set_option maxRecDepth 20000 in
theorem yf_17 : YF 17 := ⟨mt_5 (i := 186) rfl, mt_1 (i := 5) rfl, rfl, by decide +kernel, Or.inl ⟨rfl, rfl, mt_5 (i := 184) rfl, mt_5 (i := 185) rfl⟩⟩
set_option maxRecDepth 20000 in
theorem yf_18 : YF 18 := ⟨mt_1 (i := 190) rfl, mt_1 (i := 6) rfl, rfl, by decide +kernel, Or.inr (Or.inr ⟨rfl, rfl, rfl, rfl, mt_1 (i := 189) rfl⟩)⟩
set_option maxRecDepth 20000 in
theorem yf_19 : YF 19 := ⟨mt_3 (i := 2) rfl, mt_1 (i := 6) rfl, rfl, by decide +kernel, Or.inl ⟨rfl, rfl, mt_3 (i := 0) rfl, mt_3 (i := 1) rfl⟩⟩
set_option maxRecDepth 20000 in
theorem yf_20 : YF 20 := ⟨mt_3 (i := 6) rfl, mt_1 (i := 6) rfl, rfl, by decide +kernel, Or.inl ⟨rfl, rfl, mt_3 (i := 5) rfl, ms_w (ms_1 (i := 3) rfl) rfl⟩⟩
set_option maxRecDepth 20000 in
theorem yf_21 : YF 21 := ⟨mt_3 (i := 10) rfl, mt_1 (i := 6) rfl, rfl, by decide +kernel, Or.inl ⟨rfl, rfl, mt_3 (i := 9) rfl, ms_w (ms_1 (i := 4) rfl) rfl⟩⟩
set_option maxRecDepth 20000 in
theorem yf_22 : YF 22 := ⟨mt_4 (i := 76) rfl, mt_1 (i := 6) rfl, rfl, by decide +kernel, Or.inl ⟨rfl, rfl, mt_4 (i := 74) rfl, mt_4 (i := 75) rfl⟩⟩
set_option maxRecDepth 20000 in
theorem yf_23 : YF 23 := ⟨mt_1 (i := 38) rfl, mt_1 (i := 2) rfl, rfl, by decide +kernel, Or.inr (Or.inr ⟨rfl, rfl, rfl, rfl, mt_1 (i := 37) rfl⟩)⟩
set_option maxRecDepth 20000 in
theorem yf_24 : YF 24 := ⟨mt_2 (i := 177) rfl, mt_1 (i := 2) rfl, rfl, by decide +kernel, Or.inl ⟨rfl, rfl, mt_2 (i := 175) rfl, mt_2 (i := 176) rfl⟩⟩
set_option maxRecDepth 20000 in
theorem yf_25 : YF 25 := ⟨mt_2 (i := 181) rfl, mt_1 (i := 2) rfl, rfl, by decide +kernel, Or.inl ⟨rfl, rfl, mt_2 (i := 179) rfl, mt_2 (i := 180) rfl⟩⟩
set_option maxRecDepth 20000 in
theorem yf_26 : YF 26 := ⟨mt_3 (i := 125) rfl, mt_1 (i := 2) rfl, rfl, by decide +kernel, Or.inl ⟨rfl, rfl, mt_3 (i := 123) rfl, mt_3 (i := 124) rfl⟩⟩
set_option maxRecDepth 20000 in
theorem yf_27 : YF 27 := ⟨mt_3 (i := 135) rfl, mt_1 (i := 2) rfl, rfl, by decide +kernel, Or.inl ⟨rfl, rfl, mt_3 (i := 133) rfl, mt_3 (i := 134) rfl⟩⟩
set_option maxRecDepth 20000 in
theorem yf_28 : YF 28 := ⟨mt_3 (i := 139) rfl, mt_1 (i := 2) rfl, rfl, by decide +kernel, Or.inl ⟨rfl, rfl, mt_3 (i := 138) rfl, ms_w (ms_1 (i := 9) rfl) rfl⟩⟩
set_option maxRecDepth 20000 in
theorem yf_29 : YF 29 := ⟨mt_3 (i := 204) rfl, mt_1 (i := 2) rfl, rfl, by decide +kernel, Or.inl ⟨rfl, rfl, mt_3 (i := 202) rfl, mt_3 (i := 203) rfl⟩⟩
set_option maxRecDepth 20000 in
theorem yf_30 : YF 30 := ⟨mt_4 (i := 122) rfl, mt_1 (i := 2) rfl, rfl, by decide +kernel, Or.inl ⟨rfl, rfl, mt_4 (i := 120) rfl, mt_4 (i := 121) rfl⟩⟩
set_option maxRecDepth 20000 in
theorem yf_31 : YF 31 := ⟨mt_3 (i := 208) rfl, mt_1 (i := 2) rfl, rfl, by decide +kernel, Or.inl ⟨rfl, rfl, mt_3 (i := 206) rfl, mt_3 (i := 207) rfl⟩⟩
set_option maxRecDepth 20000 in
theorem yf_32 : YF 32 := ⟨mt_3 (i := 148) rfl, mt_1 (i := 2) rfl, rfl, by decide +kernel, Or.inl ⟨rfl, rfl, mt_3 (i := 146) rfl, mt_3 (i := 147) rfl⟩⟩
set_option maxRecDepth 20000 in
theorem yf_33 : YF 33 := ⟨mt_3 (i := 152) rfl, mt_1 (i := 2) rfl, rfl, by decide +kernel, Or.inl ⟨rfl, rfl, mt_3 (i := 150) rfl, mt_3 (i := 151) rfl⟩⟩
set_option maxRecDepth 20000 in
theorem yf_34 : YF 34 := ⟨mt_3 (i := 229) rfl, mt_1 (i := 2) rfl, rfl, by decide +kernel, Or.inl ⟨rfl, rfl, mt_3 (i := 227) rfl, mt_3 (i := 228) rfl⟩⟩
set_option maxRecDepth 20000 in
theorem yf_35 : YF 35 := ⟨mt_1 (i := 75) rfl, mt_1 (i := 3) rfl, rfl, by decide +kernel, Or.inr (Or.inr ⟨rfl, rfl, rfl, rfl, mt_1 (i := 74) rfl⟩)⟩
set_option maxRecDepth 20000 in
theorem yf_36 : YF 36 := ⟨mt_2 (i := 131) rfl, mt_1 (i := 3) rfl, rfl, by decide +kernel, Or.inl ⟨rfl, rfl, mt_2 (i := 129) rfl, mt_2 (i := 130) rfl⟩⟩
set_option maxRecDepth 20000 in
theorem yf_37 : YF 37 := ⟨mt_2 (i := 135) rfl, mt_1 (i := 3) rfl, rfl, by decide +kernel, Or.inl ⟨rfl, rfl, mt_2 (i := 133) rfl, mt_2 (i := 134) rfl⟩⟩
set_option maxRecDepth 20000 in
theorem yf_38 : YF 38 := ⟨mt_5 (i := 126) rfl, mt_1 (i := 3) rfl, rfl, by decide +kernel, Or.inl ⟨rfl, rfl, mt_5 (i := 124) rfl, mt_5 (i := 125) rfl⟩⟩
set_option maxRecDepth 20000 in
theorem yf_39 : YF 39 := ⟨mt_5 (i := 130) rfl, mt_1 (i := 3) rfl, rfl, by decide +kernel, Or.inl ⟨rfl, rfl, mt_5 (i := 129) rfl, ms_w (ms_3 (i := 4) rfl) rfl⟩⟩
set_option maxRecDepth 20000 in
theorem yf_40 : YF 40 := ⟨mt_4 (i := 68) rfl, mt_1 (i := 3) rfl, rfl, by decide +kernel, Or.inl ⟨rfl, rfl, mt_4 (i := 66) rfl, mt_4 (i := 67) rfl⟩⟩
set_option maxRecDepth 20000 in
theorem yf_41 : YF 41 := ⟨mt_4 (i := 53) rfl, mt_1 (i := 3) rfl, rfl, by decide +kernel, Or.inl ⟨rfl, rfl, mt_4 (i := 51) rfl, mt_4 (i := 52) rfl⟩⟩
set_option maxRecDepth 20000 in
theorem yf_42 : YF 42 := ⟨mt_3 (i := 30) rfl, mt_1 (i := 3) rfl, rfl, by decide +kernel, Or.inl ⟨rfl, rfl, mt_3 (i := 28) rfl, mt_3 (i := 29) rfl⟩⟩
set_option maxRecDepth 20000 in
theorem yf_43 : YF 43 := ⟨mt_5 (i := 45) rfl, mt_1 (i := 3) rfl, rfl, by decide +kernel, Or.inl ⟨rfl, rfl, mt_5 (i := 43) rfl, mt_5 (i := 44) rfl⟩⟩
set_option maxRecDepth 20000 in
theorem yf_44 : YF 44 := ⟨mt_5 (i := 107) rfl, mt_1 (i := 3) rfl, rfl, by decide +kernel, Or.inl ⟨rfl, rfl, mt_5 (i := 105) rfl, mt_5 (i := 106) rfl⟩⟩
set_option maxRecDepth 20000 in
theorem yf_45 : YF 45 := ⟨mt_3 (i := 22) rfl, mt_1 (i := 3) rfl, rfl, by decide +kernel, Or.inl ⟨rfl, rfl, mt_3 (i := 20) rfl, mt_3 (i := 21) rfl⟩⟩
set_option maxRecDepth 20000 in
theorem yf_46 : YF 46 := ⟨mt_4 (i := 57) rfl, mt_1 (i := 3) rfl, rfl, by decide +kernel, Or.inl ⟨rfl, rfl, mt_4 (i := 55) rfl, mt_4 (i := 56) rfl⟩⟩
set_option maxRecDepth 20000 in
theorem yf_47 : YF 47 := ⟨mt_2 (i := 214) rfl, mt_1 (i := 3) rfl, rfl, by decide +kernel, Or.inl ⟨rfl, rfl, mt_2 (i := 212) rfl, mt_2 (i := 213) rfl⟩⟩
set_option maxRecDepth 20000 in
theorem yf_48 : YF 48 := ⟨mt_2 (i := 218) rfl, mt_1 (i := 3) rfl, rfl, by decide +kernel, Or.inl ⟨rfl, rfl, mt_2 (i := 217) rfl, ms_w (ms_1 (i := 0) rfl) rfl⟩⟩
set_option maxRecDepth 20000 in
theorem yf_49 : YF 49 := ⟨mt_2 (i := 238) rfl, mt_1 (i := 3) rfl, rfl, by decide +kernel, Or.inl ⟨rfl, rfl, mt_2 (i := 236) rfl, mt_2 (i := 237) rfl⟩⟩
set_option maxRecDepth 20000 in
theorem yf_50 : YF 50 := ⟨mt_2 (i := 197) rfl, mt_1 (i := 3) rfl, rfl, by decide +kernel, Or.inl ⟨rfl, rfl, mt_2 (i := 195) rfl, mt_2 (i := 196) rfl⟩⟩
set_option maxRecDepth 20000 in
theorem yf_51 : YF 51 := ⟨mt_2 (i := 104) rfl, mt_1 (i := 11) rfl, rfl, by decide +kernel, Or.inr (Or.inr ⟨rfl, rfl, rfl, rfl, mt_2 (i := 103) rfl⟩)⟩
set_option maxRecDepth 20000 in
theorem yf_52 : YF 52 := ⟨mt_4 (i := 126) rfl, mt_1 (i := 11) rfl, rfl, by decide +kernel, Or.inl ⟨rfl, rfl, mt_4 (i := 124) rfl, mt_4 (i := 125) rfl⟩⟩
set_option maxRecDepth 20000 in
theorem yf_53 : YF 53 := ⟨mt_2 (i := 193) rfl, mt_1 (i := 11) rfl, rfl, by decide +kernel, Or.inl ⟨rfl, rfl, mt_2 (i := 191) rfl, mt_2 (i := 192) rfl⟩⟩
set_option maxRecDepth 20000 in
theorem yf_54 : YF 54 := ⟨mt_2 (i := 54) rfl, mt_1 (i := 9) rfl, rfl, by decide +kernel, Or.inr (Or.inr ⟨rfl, rfl, rfl, rfl, mt_2 (i := 53) rfl⟩)⟩
set_option maxRecDepth 20000 in
theorem yf_55 : YF 55 := ⟨mt_5 (i := 41) rfl, mt_1 (i := 9) rfl, rfl, by decide +kernel, Or.inl ⟨rfl, rfl, mt_5 (i := 39) rfl, mt_5 (i := 40) rfl⟩⟩
set_option maxRecDepth 20000 in
theorem yf_56 : YF 56 := ⟨mt_5 (i := 50) rfl, mt_1 (i := 9) rfl, rfl, by decide +kernel, Or.inl ⟨rfl, rfl, mt_5 (i := 49) rfl, ms_w (ms_2 (i := 15) rfl) rfl⟩⟩
set_option maxRecDepth 20000 in
theorem yf_57 : YF 57 := ⟨mt_5 (i := 63) rfl, mt_1 (i := 9) rfl, rfl, by decide +kernel, Or.inl ⟨rfl, rfl, mt_5 (i := 62) rfl, ms_w (ms_3 (i := 1) rfl) rfl⟩⟩
set_option maxRecDepth 20000 in
theorem yf_58 : YF 58 := ⟨mt_5 (i := 59) rfl, mt_1 (i := 9) rfl, rfl, by decide +kernel, Or.inl ⟨rfl, rfl, mt_5 (i := 58) rfl, ms_w (ms_3 (i := 0) rfl) rfl⟩⟩
set_option maxRecDepth 20000 in
theorem yf_59 : YF 59 := ⟨mt_2 (i := 78) rfl, mt_1 (i := 10) rfl, rfl, by decide +kernel, Or.inr (Or.inr ⟨rfl, rfl, rfl, rfl, mt_2 (i := 77) rfl⟩)⟩
set_option maxRecDepth 20000 in
theorem yf_60 : YF 60 := ⟨mt_3 (i := 143) rfl, mt_1 (i := 10) rfl, rfl, by decide +kernel, Or.inl ⟨rfl, rfl, mt_3 (i := 141) rfl, mt_3 (i := 142) rfl⟩⟩
set_option maxRecDepth 20000 in
theorem yf_61 : YF 61 := ⟨mt_3 (i := 212) rfl, mt_1 (i := 10) rfl, rfl, by decide +kernel, Or.inl ⟨rfl, rfl, mt_3 (i := 211) rfl, ms_w (ms_1 (i := 10) rfl) rfl⟩⟩
set_option maxRecDepth 20000 in
theorem yf_62 : YF 62 := ⟨mt_3 (i := 225) rfl, mt_1 (i := 10) rfl, rfl, by decide +kernel, Or.inl ⟨rfl, rfl, mt_3 (i := 224) rfl, ms_w (ms_1 (i := 11) rfl) rfl⟩⟩
set_option maxRecDepth 20000 in
theorem yf_63 : YF 63 := ⟨mt_3 (i := 238) rfl, mt_1 (i := 10) rfl, rfl, by decide +kernel, Or.inl ⟨rfl, rfl, mt_3 (i := 237) rfl, ms_w (ms_1 (i := 12) rfl) rfl⟩⟩
set_option maxRecDepth 20000 in
theorem yf_64 : YF 64 := ⟨mt_4 (i := 2) rfl, mt_1 (i := 10) rfl, rfl, by decide +kernel, Or.inl ⟨rfl, rfl, mt_4 (i := 1) rfl, ms_w (ms_1 (i := 13) rfl) rfl⟩⟩
set_option maxRecDepth 20000 in
theorem yf_65 : YF 65 := ⟨mt_4 (i := 11) rfl, mt_1 (i := 10) rfl, rfl, by decide +kernel, Or.inl ⟨rfl, rfl, mt_4 (i := 10) rfl, ms_w (ms_1 (i := 14) rfl) rfl⟩⟩
set_option maxRecDepth 20000 in
theorem yf_66 : YF 66 := ⟨mt_4 (i := 15) rfl, mt_1 (i := 10) rfl, rfl, by decide +kernel, Or.inl ⟨rfl, rfl, mt_4 (i := 14) rfl, ms_w (ms_1 (i := 15) rfl) rfl⟩⟩
set_option maxRecDepth 20000 in
theorem yf_67 : YF 67 := ⟨mt_4 (i := 20) rfl, mt_1 (i := 10) rfl, rfl, by decide +kernel, Or.inl ⟨rfl, rfl, mt_4 (i := 18) rfl, mt_4 (i := 19) rfl⟩⟩
set_option maxRecDepth 20000 in
theorem yf_68 : YF 68 := ⟨mt_4 (i := 25) rfl, mt_1 (i := 10) rfl, rfl, by decide +kernel, Or.inl ⟨rfl, rfl, mt_4 (i := 24) rfl, ms_w (ms_2 (i := 0) rfl) rfl⟩⟩
set_option maxRecDepth 20000 in
theorem yf_69 : YF 69 := ⟨mt_4 (i := 93) rfl, mt_1 (i := 10) rfl, rfl, by decide +kernel, Or.inl ⟨rfl, rfl, mt_4 (i := 92) rfl, ms_w (ms_2 (i := 7) rfl) rfl⟩⟩
set_option maxRecDepth 20000 in
theorem yf_70 : YF 70 := ⟨mt_4 (i := 88) rfl, mt_1 (i := 10) rfl, rfl, by decide +kernel, Or.inl ⟨rfl, rfl, mt_4 (i := 87) rfl, ms_w (ms_2 (i := 6) rfl) rfl⟩⟩
set_option maxRecDepth 20000 in
theorem yf_71 : YF 71 := ⟨mt_4 (i := 101) rfl, mt_1 (i := 10) rfl, rfl, by decide +kernel, Or.inl ⟨rfl, rfl, mt_4 (i := 100) rfl, ms_w (ms_2 (i := 8) rfl) rfl⟩⟩
set_option maxRecDepth 20000 in
theorem yf_72 : YF 72 := ⟨mt_4 (i := 106) rfl, mt_1 (i := 10) rfl, rfl, by decide +kernel, Or.inl ⟨rfl, rfl, mt_4 (i := 105) rfl, ms_w (ms_2 (i := 9) rfl) rfl⟩⟩
set_option maxRecDepth 20000 in
theorem yf_73 : YF 73 := ⟨mt_2 (i := 30) rfl, mt_1 (i := 8) rfl, rfl, by decide +kernel, Or.inr (Or.inr ⟨rfl, rfl, rfl, rfl, mt_2 (i := 29) rfl⟩)⟩
set_option maxRecDepth 20000 in
theorem yf_74 : YF 74 := ⟨mt_3 (i := 14) rfl, mt_1 (i := 8) rfl, rfl, by decide +kernel, Or.inl ⟨rfl, rfl, mt_3 (i := 12) rfl, mt_3 (i := 13) rfl⟩⟩
set_option maxRecDepth 20000 in
theorem yf_75 : YF 75 := ⟨mt_3 (i := 34) rfl, mt_1 (i := 8) rfl, rfl, by decide +kernel, Or.inl ⟨rfl, rfl, mt_3 (i := 33) rfl, ms_w (ms_1 (i := 5) rfl) rfl⟩⟩
set_option maxRecDepth 20000 in
theorem yf_76 : YF 76 := ⟨mt_3 (i := 38) rfl, mt_1 (i := 8) rfl, rfl, by decide +kernel, Or.inl ⟨rfl, rfl, mt_3 (i := 37) rfl, ms_w (ms_1 (i := 6) rfl) rfl⟩⟩
set_option maxRecDepth 20000 in
theorem yf_77 : YF 77 := ⟨mt_5 (i := 15) rfl, mt_1 (i := 8) rfl, rfl, by decide +kernel, Or.inl ⟨rfl, rfl, mt_5 (i := 13) rfl, mt_5 (i := 14) rfl⟩⟩
set_option maxRecDepth 20000 in
theorem yf_78 : YF 78 := ⟨mt_1 (i := 81) rfl, mt_1 (i := 4) rfl, rfl, by decide +kernel, Or.inr (Or.inr ⟨rfl, rfl, rfl, rfl, mt_1 (i := 80) rfl⟩)⟩
set_option maxRecDepth 20000 in
theorem yf_79 : YF 79 := ⟨mt_3 (i := 220) rfl, mt_1 (i := 4) rfl, rfl, by decide +kernel, Or.inl ⟨rfl, rfl, mt_3 (i := 218) rfl, mt_3 (i := 219) rfl⟩⟩
set_option maxRecDepth 20000 in
theorem yf_80 : YF 80 := ⟨mt_2 (i := 123) rfl, mt_1 (i := 4) rfl, rfl, by decide +kernel, Or.inl ⟨rfl, rfl, mt_2 (i := 121) rfl, mt_2 (i := 122) rfl⟩⟩
set_option maxRecDepth 20000 in
theorem yf_81 : YF 81 := ⟨mt_2 (i := 127) rfl, mt_1 (i := 4) rfl, rfl, by decide +kernel, Or.inl ⟨rfl, rfl, mt_2 (i := 125) rfl, mt_2 (i := 126) rfl⟩⟩
set_option maxRecDepth 20000 in
theorem yf_82 : YF 82 := ⟨mt_2 (i := 226) rfl, mt_1 (i := 4) rfl, rfl, by decide +kernel, Or.inl ⟨rfl, rfl, mt_2 (i := 224) rfl, mt_2 (i := 225) rfl⟩⟩
set_option maxRecDepth 20000 in
theorem yf_83 : YF 83 := ⟨mt_2 (i := 230) rfl, mt_1 (i := 4) rfl, rfl, by decide +kernel, Or.inl ⟨rfl, rfl, mt_2 (i := 228) rfl, mt_2 (i := 229) rfl⟩⟩
set_option maxRecDepth 20000 in
theorem yf_84 : YF 84 := ⟨mt_5 (i := 54) rfl, mt_1 (i := 4) rfl, rfl, by decide +kernel, Or.inl ⟨rfl, rfl, mt_5 (i := 52) rfl, mt_5 (i := 53) rfl⟩⟩
set_option maxRecDepth 20000 in
theorem yf_85 : YF 85 := ⟨mt_3 (i := 233) rfl, mt_1 (i := 4) rfl, rfl, by decide +kernel, Or.inl ⟨rfl, rfl, mt_3 (i := 231) rfl, mt_3 (i := 232) rfl⟩⟩
set_option maxRecDepth 20000 in
theorem yf_86 : YF 86 := ⟨mt_4 (i := 6) rfl, mt_1 (i := 4) rfl, rfl, by decide +kernel, Or.inl ⟨rfl, rfl, mt_4 (i := 4) rfl, mt_4 (i := 5) rfl⟩⟩
set_option maxRecDepth 20000 in
theorem yf_87 : YF 87 := ⟨mt_2 (i := 201) rfl, mt_1 (i := 4) rfl, rfl, by decide +kernel, Or.inl ⟨rfl, rfl, mt_2 (i := 199) rfl, mt_2 (i := 200) rfl⟩⟩
set_option maxRecDepth 20000 in
theorem yf_88 : YF 88 := ⟨mt_2 (i := 6) rfl, mt_1 (i := 7) rfl, rfl, by decide +kernel, Or.inr (Or.inr ⟨rfl, rfl, rfl, rfl, mt_2 (i := 5) rfl⟩)⟩
set_option maxRecDepth 20000 in
theorem yf_89 : YF 89 := ⟨mt_3 (i := 26) rfl, mt_1 (i := 7) rfl, rfl, by decide +kernel, Or.inl ⟨rfl, rfl, mt_3 (i := 24) rfl, mt_3 (i := 25) rfl⟩⟩
set_option maxRecDepth 20000 in
theorem yf_90 : YF 90 := ⟨mt_3 (i := 18) rfl, mt_1 (i := 7) rfl, rfl, by decide +kernel, Or.inl ⟨rfl, rfl, mt_3 (i := 16) rfl, mt_3 (i := 17) rfl⟩⟩
set_option maxRecDepth 20000 in
theorem yf_91 : YF 91 := ⟨mt_4 (i := 29) rfl, mt_1 (i := 7) rfl, rfl, by decide +kernel, Or.inl ⟨rfl, rfl, mt_4 (i := 27) rfl, mt_4 (i := 28) rfl⟩⟩
set_option maxRecDepth 20000 in
theorem yf_92 : YF 92 := ⟨mt_4 (i := 35) rfl, mt_1 (i := 7) rfl, rfl, by decide +kernel, Or.inl ⟨rfl, rfl, mt_4 (i := 34) rfl, ms_w (ms_2 (i := 1) rfl) rfl⟩⟩
set_option maxRecDepth 20000 in
theorem yf_93 : YF 93 := ⟨mt_1 (i := 30) rfl, mt_1 (i := 1) rfl, rfl, by decide +kernel, Or.inr (Or.inr ⟨rfl, rfl, rfl, rfl, mt_1 (i := 29) rfl⟩)⟩
set_option maxRecDepth 20000 in
theorem yf_94 : YF 94 := ⟨mt_2 (i := 173) rfl, mt_1 (i := 1) rfl, rfl, by decide +kernel, Or.inl ⟨rfl, rfl, mt_2 (i := 171) rfl, mt_2 (i := 172) rfl⟩⟩
set_option maxRecDepth 20000 in
theorem yf_95 : YF 95 := ⟨mt_3 (i := 49) rfl, mt_1 (i := 1) rfl, rfl, by decide +kernel, Or.inl ⟨rfl, rfl, mt_3 (i := 47) rfl, mt_3 (i := 48) rfl⟩⟩
set_option maxRecDepth 20000 in
theorem yf_96 : YF 96 := ⟨mt_3 (i := 53) rfl, mt_1 (i := 1) rfl, rfl, by decide +kernel, Or.inl ⟨rfl, rfl, mt_3 (i := 52) rfl, ms_w (ms_1 (i := 7) rfl) rfl⟩⟩
set_option maxRecDepth 20000 in
theorem yf_97 : YF 97 := ⟨mt_2 (i := 185) rfl, mt_1 (i := 1) rfl, rfl, by decide +kernel, Or.inl ⟨rfl, rfl, mt_2 (i := 183) rfl, mt_2 (i := 184) rfl⟩⟩
set_option maxRecDepth 20000 in
theorem yf_98 : YF 98 := ⟨mt_4 (i := 134) rfl, mt_1 (i := 1) rfl, rfl, by decide +kernel, Or.inl ⟨rfl, rfl, mt_4 (i := 132) rfl, mt_4 (i := 133) rfl⟩⟩
set_option maxRecDepth 20000 in
theorem yf_99 : YF 99 := ⟨mt_4 (i := 143) rfl, mt_1 (i := 1) rfl, rfl, by decide +kernel, Or.inl ⟨rfl, rfl, mt_4 (i := 141) rfl, mt_4 (i := 142) rfl⟩⟩
set_option maxRecDepth 20000 in
theorem yf_100 : YF 100 := ⟨mt_4 (i := 170) rfl, mt_1 (i := 1) rfl, rfl, by decide +kernel, Or.inl ⟨rfl, rfl, mt_4 (i := 168) rfl, mt_4 (i := 169) rfl⟩⟩
set_option maxRecDepth 20000 in
theorem yf_101 : YF 101 := ⟨mt_4 (i := 147) rfl, mt_1 (i := 1) rfl, rfl, by decide +kernel, Or.inl ⟨rfl, rfl, mt_4 (i := 146) rfl, ms_w (ms_2 (i := 11) rfl) rfl⟩⟩
set_option maxRecDepth 20000 in
theorem yf_102 : YF 102 := ⟨mt_4 (i := 179) rfl, mt_1 (i := 1) rfl, rfl, by decide +kernel, Or.inl ⟨rfl, rfl, mt_4 (i := 177) rfl, mt_4 (i := 178) rfl⟩⟩
set_option maxRecDepth 20000 in
theorem yf_103 : YF 103 := ⟨mt_4 (i := 183) rfl, mt_1 (i := 1) rfl, rfl, by decide +kernel, Or.inl ⟨rfl, rfl, mt_4 (i := 182) rfl, ms_w (ms_2 (i := 12) rfl) rfl⟩⟩
set_option maxRecDepth 20000 in
theorem yf_104 : YF 104 := ⟨mt_4 (i := 220) rfl, mt_1 (i := 1) rfl, rfl, by decide +kernel, Or.inl ⟨rfl, rfl, mt_4 (i := 219) rfl, ms_w (ms_2 (i := 13) rfl) rfl⟩⟩
set_option maxRecDepth 20000 in
theorem yf_105 : YF 105 := ⟨mt_4 (i := 208) rfl, mt_1 (i := 1) rfl, rfl, by decide +kernel, Or.inl ⟨rfl, rfl, mt_4 (i := 206) rfl, mt_4 (i := 207) rfl⟩⟩
set_option maxRecDepth 20000 in
theorem yf_106 : YF 106 := ⟨mt_4 (i := 216) rfl, mt_1 (i := 1) rfl, rfl, by decide +kernel, Or.inl ⟨rfl, rfl, mt_4 (i := 214) rfl, mt_4 (i := 215) rfl⟩⟩
set_option maxRecDepth 20000 in
theorem yf_107 : YF 107 := ⟨mt_4 (i := 230) rfl, mt_1 (i := 1) rfl, rfl, by decide +kernel, Or.inl ⟨rfl, rfl, mt_4 (i := 228) rfl, mt_4 (i := 229) rfl⟩⟩
set_option maxRecDepth 20000 in
theorem yf_108 : YF 108 := ⟨mt_4 (i := 234) rfl, mt_1 (i := 1) rfl, rfl, by decide +kernel, Or.inl ⟨rfl, rfl, mt_4 (i := 233) rfl, ms_w (ms_2 (i := 14) rfl) rfl⟩⟩
set_option maxRecDepth 20000 in
theorem yf_109 : YF 109 := ⟨mt_5 (i := 4) rfl, mt_1 (i := 1) rfl, rfl, by decide +kernel, Or.inl ⟨rfl, rfl, mt_5 (i := 2) rfl, mt_5 (i := 3) rfl⟩⟩
set_option maxRecDepth 20000 in
theorem yf_110 : YF 110 := ⟨mt_5 (i := 11) rfl, mt_1 (i := 1) rfl, rfl, by decide +kernel, Or.inl ⟨rfl, rfl, mt_5 (i := 9) rfl, mt_5 (i := 10) rfl⟩⟩
set_option maxRecDepth 20000 in
theorem yf_111 : YF 111 := ⟨mt_5 (i := 22) rfl, mt_1 (i := 1) rfl, rfl, by decide +kernel, Or.inl ⟨rfl, rfl, mt_5 (i := 20) rfl, mt_5 (i := 21) rfl⟩⟩
set_option maxRecDepth 20000 in
theorem yf_112 : YF 112 := ⟨mt_5 (i := 29) rfl, mt_1 (i := 1) rfl, rfl, by decide +kernel, Or.inl ⟨rfl, rfl, mt_5 (i := 27) rfl, mt_5 (i := 28) rfl⟩⟩
set_option maxRecDepth 20000 in
theorem yf_113 : YF 113 := ⟨mt_5 (i := 37) rfl, mt_1 (i := 1) rfl, rfl, by decide +kernel, Or.inl ⟨rfl, rfl, mt_5 (i := 35) rfl, mt_5 (i := 36) rfl⟩⟩
set_option maxRecDepth 20000 in
theorem yf_114 : YF 114 := ⟨mt_5 (i := 70) rfl, mt_1 (i := 1) rfl, rfl, by decide +kernel, Or.inl ⟨rfl, rfl, mt_5 (i := 68) rfl, mt_5 (i := 69) rfl⟩⟩
set_option maxRecDepth 20000 in
theorem yf_115 : YF 115 := ⟨mt_5 (i := 78) rfl, mt_1 (i := 1) rfl, rfl, by decide +kernel, Or.inl ⟨rfl, rfl, mt_5 (i := 76) rfl, mt_5 (i := 77) rfl⟩⟩
set_option maxRecDepth 20000 in
theorem yf_116 : YF 116 := ⟨mt_5 (i := 86) rfl, mt_1 (i := 1) rfl, rfl, by decide +kernel, Or.inl ⟨rfl, rfl, mt_5 (i := 84) rfl, mt_5 (i := 85) rfl⟩⟩
set_option maxRecDepth 20000 in
theorem yf_117 : YF 117 := ⟨mt_5 (i := 94) rfl, mt_1 (i := 1) rfl, rfl, by decide +kernel, Or.inl ⟨rfl, rfl, mt_5 (i := 92) rfl, mt_5 (i := 93) rfl⟩⟩
set_option maxRecDepth 20000 in
theorem yf_118 : YF 118 := ⟨mt_5 (i := 118) rfl, mt_1 (i := 1) rfl, rfl, by decide +kernel, Or.inl ⟨rfl, rfl, mt_5 (i := 116) rfl, mt_5 (i := 117) rfl⟩⟩
set_option maxRecDepth 20000 in
theorem yf_119 : YF 119 := ⟨mt_5 (i := 141) rfl, mt_1 (i := 1) rfl, rfl, by decide +kernel, Or.inl ⟨rfl, rfl, mt_5 (i := 139) rfl, mt_5 (i := 140) rfl⟩⟩
set_option maxRecDepth 20000 in
theorem yf_120 : YF 120 := ⟨mt_5 (i := 150) rfl, mt_1 (i := 1) rfl, rfl, by decide +kernel, Or.inl ⟨rfl, rfl, mt_5 (i := 148) rfl, mt_5 (i := 149) rfl⟩⟩
set_option maxRecDepth 20000 in
theorem yf_121 : YF 121 := ⟨mt_5 (i := 166) rfl, mt_1 (i := 1) rfl, rfl, by decide +kernel, Or.inl ⟨rfl, rfl, mt_5 (i := 164) rfl, mt_5 (i := 165) rfl⟩⟩
set_option maxRecDepth 20000 in
theorem yf_122 : YF 122 := ⟨mt_2 (i := 189) rfl, mt_1 (i := 1) rfl, rfl, by decide +kernel, Or.inl ⟨rfl, rfl, mt_2 (i := 187) rfl, mt_2 (i := 188) rfl⟩⟩
set_option maxRecDepth 20000 in
theorem yf_123 : YF 123 := ⟨mt_2 (i := 209) rfl, mt_1 (i := 1) rfl, rfl, by decide +kernel, Or.inl ⟨rfl, rfl, mt_2 (i := 207) rfl, mt_2 (i := 208) rfl⟩⟩
set_option maxRecDepth 20000 in
theorem yf_124 : YF 124 := ⟨mt_2 (i := 222) rfl, mt_1 (i := 1) rfl, rfl, by decide +kernel, Or.inl ⟨rfl, rfl, mt_2 (i := 221) rfl, ms_w (ms_1 (i := 1) rfl) rfl⟩⟩
set_option maxRecDepth 20000 in
theorem yf_125 : YF 125 := ⟨mt_2 (i := 234) rfl, mt_1 (i := 1) rfl, rfl, by decide +kernel, Or.inl ⟨rfl, rfl, mt_2 (i := 233) rfl, ms_w (ms_1 (i := 2) rfl) rfl⟩⟩
set_option maxRecDepth 20000 in
theorem yf_126 : YF 126 := ⟨mt_5 (i := 191) rfl, mt_1 (i := 12) rfl, rfl, by decide +kernel, Or.inr (Or.inr ⟨rfl, rfl, rfl, rfl, mt_5 (i := 190) rfl⟩)⟩
set_option maxRecDepth 20000 in
theorem yf_127 : YF 127 := ⟨mt_6 (i := 77) rfl, mt_1 (i := 12) rfl, rfl, by decide +kernel, Or.inl ⟨rfl, rfl, mt_6 (i := 75) rfl, mt_6 (i := 76) rfl⟩⟩
set_option maxRecDepth 20000 in
theorem yf_128 : YF 128 := ⟨mt_6 (i := 88) rfl, mt_1 (i := 12) rfl, rfl, by decide +kernel, Or.inr (Or.inl ⟨rfl, mt_6 (i := 87) rfl⟩)⟩
set_option maxRecDepth 20000 in
theorem yf_129 : YF 129 := ⟨mt_5 (i := 218) rfl, mt_1 (i := 12) rfl, rfl, by decide +kernel, Or.inl ⟨rfl, rfl, mt_5 (i := 217) rfl, ms_w (ms_3 (i := 11) rfl) rfl⟩⟩
set_option maxRecDepth 20000 in
theorem yf_130 : YF 130 := ⟨mt_5 (i := 196) rfl, mt_1 (i := 12) rfl, rfl, by decide +kernel, Or.inl ⟨rfl, rfl, mt_5 (i := 195) rfl, ms_w (ms_3 (i := 7) rfl) rfl⟩⟩
set_option maxRecDepth 20000 in
theorem yf_131 : YF 131 := ⟨mt_5 (i := 225) rfl, mt_1 (i := 12) rfl, rfl, by decide +kernel, Or.inl ⟨rfl, rfl, mt_5 (i := 224) rfl, ms_w (ms_3 (i := 12) rfl) rfl⟩⟩
set_option maxRecDepth 20000 in
theorem yf_132 : YF 132 := ⟨mt_7 (i := 39) rfl, mt_1 (i := 12) rfl, rfl, by decide +kernel, Or.inl ⟨rfl, rfl, mt_7 (i := 38) rfl, ms_w (ms_6 (i := 8) rfl) rfl⟩⟩
set_option maxRecDepth 20000 in
theorem yf_133 : YF 133 := ⟨mt_7 (i := 35) rfl, mt_1 (i := 12) rfl, rfl, by decide +kernel, Or.inl ⟨rfl, rfl, mt_7 (i := 34) rfl, ms_w (ms_6 (i := 7) rfl) rfl⟩⟩
set_option maxRecDepth 20000 in
theorem yf_134 : YF 134 := ⟨mt_6 (i := 92) rfl, mt_1 (i := 12) rfl, rfl, by decide +kernel, Or.inl ⟨rfl, rfl, mt_6 (i := 91) rfl, ms_w (ms_3 (i := 13) rfl) rfl⟩⟩
set_option maxRecDepth 20000 in
theorem yf_135 : YF 135 := ⟨mt_5 (i := 203) rfl, mt_1 (i := 12) rfl, rfl, by decide +kernel, Or.inr (Or.inl ⟨rfl, mt_5 (i := 202) rfl⟩)⟩
set_option maxRecDepth 20000 in
theorem yf_136 : YF 136 := ⟨mt_5 (i := 206) rfl, mt_1 (i := 12) rfl, rfl, by decide +kernel, Or.inr (Or.inl ⟨rfl, mt_5 (i := 205) rfl⟩)⟩
set_option maxRecDepth 20000 in
theorem yf_137 : YF 137 := ⟨mt_5 (i := 221) rfl, mt_1 (i := 12) rfl, rfl, by decide +kernel, Or.inr (Or.inl ⟨rfl, mt_5 (i := 220) rfl⟩)⟩
set_option maxRecDepth 20000 in
theorem yf_138 : YF 138 := ⟨mt_6 (i := 181) rfl, mt_1 (i := 12) rfl, rfl, by decide +kernel, Or.inl ⟨rfl, rfl, mt_6 (i := 180) rfl, ms_w (ms_5 (i := 1) rfl) rfl⟩⟩
set_option maxRecDepth 20000 in
theorem yf_139 : YF 139 := ⟨mt_6 (i := 155) rfl, mt_1 (i := 12) rfl, rfl, by decide +kernel, Or.inl ⟨rfl, rfl, mt_6 (i := 154) rfl, ms_w (ms_4 (i := 11) rfl) rfl⟩⟩
set_option maxRecDepth 20000 in
theorem yf_140 : YF 140 := ⟨mt_6 (i := 159) rfl, mt_1 (i := 12) rfl, rfl, by decide +kernel, Or.inl ⟨rfl, rfl, mt_6 (i := 158) rfl, ms_w (ms_4 (i := 12) rfl) rfl⟩⟩
set_option maxRecDepth 20000 in
theorem yf_141 : YF 141 := ⟨mt_5 (i := 200) rfl, mt_1 (i := 12) rfl, rfl, by decide +kernel, Or.inl ⟨rfl, rfl, mt_5 (i := 199) rfl, ms_w (ms_3 (i := 8) rfl) rfl⟩⟩
set_option maxRecDepth 20000 in
theorem yf_142 : YF 142 := ⟨mt_5 (i := 210) rfl, mt_1 (i := 12) rfl, rfl, by decide +kernel, Or.inl ⟨rfl, rfl, mt_5 (i := 209) rfl, ms_w (ms_3 (i := 9) rfl) rfl⟩⟩
set_option maxRecDepth 20000 in
theorem yf_143 : YF 143 := ⟨mt_5 (i := 214) rfl, mt_1 (i := 12) rfl, rfl, by decide +kernel, Or.inl ⟨rfl, rfl, mt_5 (i := 213) rfl, ms_w (ms_3 (i := 10) rfl) rfl⟩⟩
set_option maxRecDepth 20000 in
theorem yf_144 : YF 144 := ⟨mt_7 (i := 80) rfl, mt_1 (i := 12) rfl, rfl, by decide +kernel, Or.inl ⟨rfl, rfl, mt_7 (i := 79) rfl, ms_w (ms_6 (i := 13) rfl) rfl⟩⟩
set_option maxRecDepth 20000 in
theorem yf_145 : YF 145 := ⟨mt_6 (i := 225) rfl, mt_1 (i := 12) rfl, rfl, by decide +kernel, Or.inl ⟨rfl, rfl, mt_6 (i := 224) rfl, ms_w (ms_5 (i := 12) rfl) rfl⟩⟩
set_option maxRecDepth 20000 in
theorem yf_146 : YF 146 := ⟨mt_6 (i := 221) rfl, mt_1 (i := 12) rfl, rfl, by decide +kernel, Or.inl ⟨rfl, rfl, mt_6 (i := 220) rfl, ms_w (ms_5 (i := 11) rfl) rfl⟩⟩
set_option maxRecDepth 20000 in
theorem yf_147 : YF 147 := ⟨mt_6 (i := 189) rfl, mt_1 (i := 12) rfl, rfl, by decide +kernel, Or.inl ⟨rfl, rfl, mt_6 (i := 188) rfl, ms_w (ms_5 (i := 3) rfl) rfl⟩⟩
set_option maxRecDepth 20000 in
theorem yf_148 : YF 148 := ⟨mt_7 (i := 164) rfl, mt_1 (i := 12) rfl, rfl, by decide +kernel, Or.inl ⟨rfl, rfl, mt_7 (i := 163) rfl, ms_w (ms_7 (i := 6) rfl) rfl⟩⟩
set_option maxRecDepth 20000 in
theorem yf_149 : YF 149 := ⟨mt_7 (i := 168) rfl, mt_1 (i := 12) rfl, rfl, by decide +kernel, Or.inl ⟨rfl, rfl, mt_7 (i := 167) rfl, ms_w (ms_7 (i := 7) rfl) rfl⟩⟩
set_option maxRecDepth 20000 in
theorem yf_150 : YF 150 := ⟨mt_7 (i := 180) rfl, mt_1 (i := 12) rfl, rfl, by decide +kernel, Or.inl ⟨rfl, rfl, mt_7 (i := 179) rfl, ms_w (ms_7 (i := 9) rfl) rfl⟩⟩
set_option maxRecDepth 20000 in
theorem yf_151 : YF 151 := ⟨mt_6 (i := 209) rfl, mt_1 (i := 12) rfl, rfl, by decide +kernel, Or.inl ⟨rfl, rfl, mt_6 (i := 208) rfl, ms_w (ms_5 (i := 8) rfl) rfl⟩⟩
set_option maxRecDepth 20000 in
theorem yf_152 : YF 152 := ⟨mt_6 (i := 205) rfl, mt_1 (i := 12) rfl, rfl, by decide +kernel, Or.inl ⟨rfl, rfl, mt_6 (i := 204) rfl, ms_w (ms_5 (i := 7) rfl) rfl⟩⟩
set_option maxRecDepth 20000 in
theorem yf_153 : YF 153 := ⟨mt_6 (i := 217) rfl, mt_1 (i := 12) rfl, rfl, by decide +kernel, Or.inl ⟨rfl, rfl, mt_6 (i := 216) rfl, ms_w (ms_5 (i := 10) rfl) rfl⟩⟩
set_option maxRecDepth 20000 in
theorem yf_154 : YF 154 := ⟨mt_6 (i := 213) rfl, mt_1 (i := 12) rfl, rfl, by decide +kernel, Or.inl ⟨rfl, rfl, mt_6 (i := 212) rfl, ms_w (ms_5 (i := 9) rfl) rfl⟩⟩
set_option maxRecDepth 20000 in
theorem yf_155 : YF 155 := ⟨mt_6 (i := 237) rfl, mt_1 (i := 12) rfl, rfl, by decide +kernel, Or.inl ⟨rfl, rfl, mt_6 (i := 236) rfl, ms_w (ms_5 (i := 15) rfl) rfl⟩⟩
set_option maxRecDepth 20000 in
theorem yf_156 : YF 156 := ⟨mt_7 (i := 5) rfl, mt_1 (i := 12) rfl, rfl, by decide +kernel, Or.inl ⟨rfl, rfl, mt_7 (i := 4) rfl, ms_w (ms_6 (i := 1) rfl) rfl⟩⟩
set_option maxRecDepth 20000 in
theorem yf_157 : YF 157 := ⟨mt_7 (i := 1) rfl, mt_1 (i := 12) rfl, rfl, by decide +kernel, Or.inl ⟨rfl, rfl, mt_7 (i := 0) rfl, ms_w (ms_6 (i := 0) rfl) rfl⟩⟩
set_option maxRecDepth 20000 in
theorem yf_158 : YF 158 := ⟨mt_7 (i := 13) rfl, mt_1 (i := 12) rfl, rfl, by decide +kernel, Or.inl ⟨rfl, rfl, mt_7 (i := 12) rfl, ms_w (ms_6 (i := 3) rfl) rfl⟩⟩
set_option maxRecDepth 20000 in
theorem yf_159 : YF 159 := ⟨mt_7 (i := 9) rfl, mt_1 (i := 12) rfl, rfl, by decide +kernel, Or.inl ⟨rfl, rfl, mt_7 (i := 8) rfl, ms_w (ms_6 (i := 2) rfl) rfl⟩⟩
set_option maxRecDepth 20000 in
theorem yf_160 : YF 160 := ⟨mt_6 (i := 233) rfl, mt_1 (i := 12) rfl, rfl, by decide +kernel, Or.inl ⟨rfl, rfl, mt_6 (i := 232) rfl, ms_w (ms_5 (i := 14) rfl) rfl⟩⟩
set_option maxRecDepth 20000 in
theorem yf_161 : YF 161 := ⟨mt_6 (i := 229) rfl, mt_1 (i := 12) rfl, rfl, by decide +kernel, Or.inl ⟨rfl, rfl, mt_6 (i := 228) rfl, ms_w (ms_5 (i := 13) rfl) rfl⟩⟩
set_option maxRecDepth 20000 in
theorem yf_162 : YF 162 := ⟨mt_6 (i := 201) rfl, mt_1 (i := 12) rfl, rfl, by decide +kernel, Or.inl ⟨rfl, rfl, mt_6 (i := 200) rfl, ms_w (ms_5 (i := 6) rfl) rfl⟩⟩
set_option maxRecDepth 20000 in
theorem yf_163 : YF 163 := ⟨mt_7 (i := 18) rfl, mt_1 (i := 12) rfl, rfl, by decide +kernel, Or.inl ⟨rfl, rfl, mt_7 (i := 17) rfl, ms_w (ms_6 (i := 4) rfl) rfl⟩⟩
set_option maxRecDepth 20000 in
theorem yf_164 : YF 164 := ⟨mt_7 (i := 160) rfl, mt_1 (i := 12) rfl, rfl, by decide +kernel, Or.inl ⟨rfl, rfl, mt_7 (i := 159) rfl, ms_w (ms_7 (i := 5) rfl) rfl⟩⟩
set_option maxRecDepth 20000 in
theorem yf_165 : YF 165 := ⟨mt_7 (i := 156) rfl, mt_1 (i := 12) rfl, rfl, by decide +kernel, Or.inl ⟨rfl, rfl, mt_7 (i := 155) rfl, ms_w (ms_7 (i := 4) rfl) rfl⟩⟩
set_option maxRecDepth 20000 in
theorem yf_166 : YF 166 := ⟨mt_7 (i := 184) rfl, mt_1 (i := 12) rfl, rfl, by decide +kernel, Or.inl ⟨rfl, rfl, mt_7 (i := 183) rfl, ms_w (ms_7 (i := 10) rfl) rfl⟩⟩
set_option maxRecDepth 20000 in
theorem yf_167 : YF 167 := ⟨mt_7 (i := 176) rfl, mt_1 (i := 12) rfl, rfl, by decide +kernel, Or.inl ⟨rfl, rfl, mt_7 (i := 175) rfl, ms_w (ms_7 (i := 8) rfl) rfl⟩⟩
set_option maxRecDepth 20000 in
theorem yf_168 : YF 168 := ⟨mt_7 (i := 31) rfl, mt_1 (i := 12) rfl, rfl, by decide +kernel, Or.inl ⟨rfl, rfl, mt_7 (i := 30) rfl, ms_w (ms_6 (i := 6) rfl) rfl⟩⟩
set_option maxRecDepth 20000 in
theorem yf_169 : YF 169 := ⟨mt_7 (i := 27) rfl, mt_1 (i := 12) rfl, rfl, by decide +kernel, Or.inl ⟨rfl, rfl, mt_7 (i := 26) rfl, ms_w (ms_6 (i := 5) rfl) rfl⟩⟩
set_option maxRecDepth 20000 in
theorem yf_170 : YF 170 := ⟨mt_7 (i := 201) rfl, mt_1 (i := 12) rfl, rfl, by decide +kernel, Or.inl ⟨rfl, rfl, mt_7 (i := 200) rfl, ms_w (ms_7 (i := 12) rfl) rfl⟩⟩
set_option maxRecDepth 20000 in
theorem yf_171 : YF 171 := ⟨mt_7 (i := 205) rfl, mt_1 (i := 12) rfl, rfl, by decide +kernel, Or.inl ⟨rfl, rfl, mt_7 (i := 204) rfl, ms_w (ms_7 (i := 13) rfl) rfl⟩⟩
set_option maxRecDepth 20000 in
theorem yf_172 : YF 172 := ⟨mt_7 (i := 197) rfl, mt_1 (i := 12) rfl, rfl, by decide +kernel, Or.inl ⟨rfl, rfl, mt_7 (i := 196) rfl, ms_w (ms_7 (i := 11) rfl) rfl⟩⟩
set_option maxRecDepth 20000 in
theorem yf_173 : YF 173 := ⟨mt_6 (i := 185) rfl, mt_1 (i := 12) rfl, rfl, by decide +kernel, Or.inl ⟨rfl, rfl, mt_6 (i := 184) rfl, ms_w (ms_5 (i := 2) rfl) rfl⟩⟩
set_option maxRecDepth 20000 in
theorem yf_174 : YF 174 := ⟨mt_6 (i := 177) rfl, mt_1 (i := 12) rfl, rfl, by decide +kernel, Or.inl ⟨rfl, rfl, mt_6 (i := 176) rfl, ms_w (ms_5 (i := 0) rfl) rfl⟩⟩
set_option maxRecDepth 20000 in
theorem yf_175 : YF 175 := ⟨mt_6 (i := 81) rfl, mt_1 (i := 12) rfl, rfl, by decide +kernel, Or.inl ⟨rfl, rfl, mt_6 (i := 79) rfl, mt_6 (i := 80) rfl⟩⟩
set_option maxRecDepth 20000 in
theorem yf_176 : YF 176 := ⟨mt_6 (i := 114) rfl, mt_1 (i := 12) rfl, rfl, by decide +kernel, Or.inl ⟨rfl, rfl, mt_6 (i := 113) rfl, ms_w (ms_4 (i := 1) rfl) rfl⟩⟩
set_option maxRecDepth 20000 in
theorem yf_177 : YF 177 := ⟨mt_6 (i := 105) rfl, mt_1 (i := 12) rfl, rfl, by decide +kernel, Or.inl ⟨rfl, rfl, mt_6 (i := 104) rfl, ms_w (ms_4 (i := 0) rfl) rfl⟩⟩
set_option maxRecDepth 20000 in
theorem yf_178 : YF 178 := ⟨mt_6 (i := 108) rfl, mt_1 (i := 12) rfl, rfl, by decide +kernel, Or.inr (Or.inl ⟨rfl, mt_6 (i := 107) rfl⟩)⟩
set_option maxRecDepth 20000 in
theorem yf_179 : YF 179 := ⟨mt_6 (i := 101) rfl, mt_1 (i := 12) rfl, rfl, by decide +kernel, Or.inl ⟨rfl, rfl, mt_6 (i := 100) rfl, ms_w (ms_3 (i := 15) rfl) rfl⟩⟩
set_option maxRecDepth 20000 in
theorem yf_180 : YF 180 := ⟨mt_6 (i := 118) rfl, mt_1 (i := 12) rfl, rfl, by decide +kernel, Or.inl ⟨rfl, rfl, mt_6 (i := 117) rfl, ms_w (ms_4 (i := 2) rfl) rfl⟩⟩
set_option maxRecDepth 20000 in
theorem yf_181 : YF 181 := ⟨mt_6 (i := 127) rfl, mt_1 (i := 12) rfl, rfl, by decide +kernel, Or.inl ⟨rfl, rfl, mt_6 (i := 126) rfl, ms_w (ms_4 (i := 4) rfl) rfl⟩⟩
set_option maxRecDepth 20000 in
theorem yf_182 : YF 182 := ⟨mt_6 (i := 135) rfl, mt_1 (i := 12) rfl, rfl, by decide +kernel, Or.inl ⟨rfl, rfl, mt_6 (i := 134) rfl, ms_w (ms_4 (i := 6) rfl) rfl⟩⟩
set_option maxRecDepth 20000 in
theorem yf_183 : YF 183 := ⟨mt_6 (i := 139) rfl, mt_1 (i := 12) rfl, rfl, by decide +kernel, Or.inl ⟨rfl, rfl, mt_6 (i := 138) rfl, ms_w (ms_4 (i := 7) rfl) rfl⟩⟩
set_option maxRecDepth 20000 in
theorem yf_184 : YF 184 := ⟨mt_6 (i := 131) rfl, mt_1 (i := 12) rfl, rfl, by decide +kernel, Or.inl ⟨rfl, rfl, mt_6 (i := 130) rfl, ms_w (ms_4 (i := 5) rfl) rfl⟩⟩
set_option maxRecDepth 20000 in
theorem yf_185 : YF 185 := ⟨mt_6 (i := 151) rfl, mt_1 (i := 12) rfl, rfl, by decide +kernel, Or.inl ⟨rfl, rfl, mt_6 (i := 150) rfl, ms_w (ms_4 (i := 10) rfl) rfl⟩⟩
set_option maxRecDepth 20000 in
theorem yf_186 : YF 186 := ⟨mt_6 (i := 147) rfl, mt_1 (i := 12) rfl, rfl, by decide +kernel, Or.inl ⟨rfl, rfl, mt_6 (i := 146) rfl, ms_w (ms_4 (i := 9) rfl) rfl⟩⟩
set_option maxRecDepth 20000 in
theorem yf_187 : YF 187 := ⟨mt_6 (i := 143) rfl, mt_1 (i := 12) rfl, rfl, by decide +kernel, Or.inl ⟨rfl, rfl, mt_6 (i := 142) rfl, ms_w (ms_4 (i := 8) rfl) rfl⟩⟩
set_option maxRecDepth 20000 in
theorem yf_188 : YF 188 := ⟨mt_6 (i := 122) rfl, mt_1 (i := 12) rfl, rfl, by decide +kernel, Or.inl ⟨rfl, rfl, mt_6 (i := 121) rfl, ms_w (ms_4 (i := 3) rfl) rfl⟩⟩
set_option maxRecDepth 20000 in
theorem yf_189 : YF 189 := ⟨mt_6 (i := 164) rfl, mt_1 (i := 12) rfl, rfl, by decide +kernel, Or.inl ⟨rfl, rfl, mt_6 (i := 163) rfl, ms_w (ms_4 (i := 13) rfl) rfl⟩⟩
set_option maxRecDepth 20000 in
theorem yf_190 : YF 190 := ⟨mt_6 (i := 193) rfl, mt_1 (i := 12) rfl, rfl, by decide +kernel, Or.inl ⟨rfl, rfl, mt_6 (i := 192) rfl, ms_w (ms_5 (i := 4) rfl) rfl⟩⟩
set_option maxRecDepth 20000 in
theorem yf_191 : YF 191 := ⟨mt_6 (i := 173) rfl, mt_1 (i := 12) rfl, rfl, by decide +kernel, Or.inl ⟨rfl, rfl, mt_6 (i := 172) rfl, ms_w (ms_4 (i := 15) rfl) rfl⟩⟩
set_option maxRecDepth 20000 in
theorem yf_192 : YF 192 := ⟨mt_6 (i := 168) rfl, mt_1 (i := 12) rfl, rfl, by decide +kernel, Or.inl ⟨rfl, rfl, mt_6 (i := 167) rfl, ms_w (ms_4 (i := 14) rfl) rfl⟩⟩
set_option maxRecDepth 20000 in
theorem yf_193 : YF 193 := ⟨mt_6 (i := 197) rfl, mt_1 (i := 12) rfl, rfl, by decide +kernel, Or.inl ⟨rfl, rfl, mt_6 (i := 196) rfl, ms_w (ms_5 (i := 5) rfl) rfl⟩⟩
set_option maxRecDepth 20000 in
theorem yf_194 : YF 194 := ⟨mt_6 (i := 96) rfl, mt_1 (i := 12) rfl, rfl, by decide +kernel, Or.inl ⟨rfl, rfl, mt_6 (i := 95) rfl, ms_w (ms_3 (i := 14) rfl) rfl⟩⟩
set_option maxRecDepth 20000 in
theorem yf_195 : YF 195 := ⟨mt_6 (i := 85) rfl, mt_1 (i := 12) rfl, rfl, by decide +kernel, Or.inl ⟨rfl, rfl, mt_6 (i := 83) rfl, mt_6 (i := 84) rfl⟩⟩
set_option maxRecDepth 20000 in
theorem yf_196 : YF 196 := ⟨mt_7 (i := 43) rfl, mt_1 (i := 12) rfl, rfl, by decide +kernel, Or.inl ⟨rfl, rfl, mt_7 (i := 41) rfl, mt_7 (i := 42) rfl⟩⟩
set_option maxRecDepth 20000 in
theorem yf_197 : YF 197 := ⟨mt_7 (i := 56) rfl, mt_1 (i := 12) rfl, rfl, by decide +kernel, Or.inl ⟨rfl, rfl, mt_7 (i := 55) rfl, ms_w (ms_6 (i := 10) rfl) rfl⟩⟩
set_option maxRecDepth 20000 in
theorem yf_198 : YF 198 := ⟨mt_7 (i := 52) rfl, mt_1 (i := 12) rfl, rfl, by decide +kernel, Or.inl ⟨rfl, rfl, mt_7 (i := 51) rfl, ms_w (ms_6 (i := 9) rfl) rfl⟩⟩
set_option maxRecDepth 20000 in
theorem yf_199 : YF 199 := ⟨mt_7 (i := 47) rfl, mt_1 (i := 12) rfl, rfl, by decide +kernel, Or.inl ⟨rfl, rfl, mt_7 (i := 45) rfl, mt_7 (i := 46) rfl⟩⟩
set_option maxRecDepth 20000 in
theorem yf_200 : YF 200 := ⟨mt_7 (i := 64) rfl, mt_1 (i := 12) rfl, rfl, by decide +kernel, Or.inl ⟨rfl, rfl, mt_7 (i := 63) rfl, ms_w (ms_6 (i := 11) rfl) rfl⟩⟩
set_option maxRecDepth 20000 in
theorem yf_201 : YF 201 := ⟨mt_7 (i := 60) rfl, mt_1 (i := 12) rfl, rfl, by decide +kernel, Or.inl ⟨rfl, rfl, mt_7 (i := 58) rfl, mt_7 (i := 59) rfl⟩⟩
set_option maxRecDepth 20000 in
theorem yf_202 : YF 202 := ⟨mt_7 (i := 68) rfl, mt_1 (i := 12) rfl, rfl, by decide +kernel, Or.inl ⟨rfl, rfl, mt_7 (i := 66) rfl, mt_7 (i := 67) rfl⟩⟩
set_option maxRecDepth 20000 in
theorem yf_203 : YF 203 := ⟨mt_7 (i := 76) rfl, mt_1 (i := 12) rfl, rfl, by decide +kernel, Or.inl ⟨rfl, rfl, mt_7 (i := 75) rfl, ms_w (ms_6 (i := 12) rfl) rfl⟩⟩
set_option maxRecDepth 20000 in
theorem yf_204 : YF 204 := ⟨mt_7 (i := 92) rfl, mt_1 (i := 12) rfl, rfl, by decide +kernel, Or.inl ⟨rfl, rfl, mt_7 (i := 91) rfl, ms_w (ms_6 (i := 14) rfl) rfl⟩⟩
set_option maxRecDepth 20000 in
theorem yf_205 : YF 205 := ⟨mt_7 (i := 72) rfl, mt_1 (i := 12) rfl, rfl, by decide +kernel, Or.inl ⟨rfl, rfl, mt_7 (i := 70) rfl, mt_7 (i := 71) rfl⟩⟩
set_option maxRecDepth 20000 in
theorem yf_206 : YF 206 := ⟨mt_7 (i := 84) rfl, mt_1 (i := 12) rfl, rfl, by decide +kernel, Or.inl ⟨rfl, rfl, mt_7 (i := 82) rfl, mt_7 (i := 83) rfl⟩⟩
set_option maxRecDepth 20000 in
theorem yf_207 : YF 207 := ⟨mt_7 (i := 88) rfl, mt_1 (i := 12) rfl, rfl, by decide +kernel, Or.inl ⟨rfl, rfl, mt_7 (i := 86) rfl, mt_7 (i := 87) rfl⟩⟩
set_option maxRecDepth 20000 in
theorem yf_208 : YF 208 := ⟨mt_7 (i := 96) rfl, mt_1 (i := 12) rfl, rfl, by decide +kernel, Or.inl ⟨rfl, rfl, mt_7 (i := 94) rfl, mt_7 (i := 95) rfl⟩⟩
set_option maxRecDepth 20000 in
theorem yf_209 : YF 209 := ⟨mt_7 (i := 108) rfl, mt_1 (i := 12) rfl, rfl, by decide +kernel, Or.inl ⟨rfl, rfl, mt_7 (i := 107) rfl, ms_w (ms_7 (i := 0) rfl) rfl⟩⟩
set_option maxRecDepth 20000 in
theorem yf_210 : YF 210 := ⟨mt_7 (i := 112) rfl, mt_1 (i := 12) rfl, rfl, by decide +kernel, Or.inl ⟨rfl, rfl, mt_7 (i := 111) rfl, ms_w (ms_7 (i := 1) rfl) rfl⟩⟩
set_option maxRecDepth 20000 in
theorem yf_211 : YF 211 := ⟨mt_7 (i := 104) rfl, mt_1 (i := 12) rfl, rfl, by decide +kernel, Or.inl ⟨rfl, rfl, mt_7 (i := 103) rfl, ms_w (ms_6 (i := 15) rfl) rfl⟩⟩
set_option maxRecDepth 20000 in
theorem yf_212 : YF 212 := ⟨mt_7 (i := 100) rfl, mt_1 (i := 12) rfl, rfl, by decide +kernel, Or.inl ⟨rfl, rfl, mt_7 (i := 98) rfl, mt_7 (i := 99) rfl⟩⟩
set_option maxRecDepth 20000 in
theorem yf_213 : YF 213 := ⟨mt_7 (i := 116) rfl, mt_1 (i := 12) rfl, rfl, by decide +kernel, Or.inl ⟨rfl, rfl, mt_7 (i := 114) rfl, mt_7 (i := 115) rfl⟩⟩
set_option maxRecDepth 20000 in
theorem yf_214 : YF 214 := ⟨mt_7 (i := 120) rfl, mt_1 (i := 12) rfl, rfl, by decide +kernel, Or.inl ⟨rfl, rfl, mt_7 (i := 118) rfl, mt_7 (i := 119) rfl⟩⟩
set_option maxRecDepth 20000 in
theorem yf_215 : YF 215 := ⟨mt_7 (i := 124) rfl, mt_1 (i := 12) rfl, rfl, by decide +kernel, Or.inl ⟨rfl, rfl, mt_7 (i := 122) rfl, mt_7 (i := 123) rfl⟩⟩
set_option maxRecDepth 20000 in
theorem yf_216 : YF 216 := ⟨mt_7 (i := 136) rfl, mt_1 (i := 12) rfl, rfl, by decide +kernel, Or.inl ⟨rfl, rfl, mt_7 (i := 135) rfl, ms_w (ms_7 (i := 3) rfl) rfl⟩⟩
set_option maxRecDepth 20000 in
theorem yf_217 : YF 217 := ⟨mt_7 (i := 132) rfl, mt_1 (i := 12) rfl, rfl, by decide +kernel, Or.inl ⟨rfl, rfl, mt_7 (i := 131) rfl, ms_w (ms_7 (i := 2) rfl) rfl⟩⟩
set_option maxRecDepth 20000 in
theorem yf_218 : YF 218 := ⟨mt_7 (i := 128) rfl, mt_1 (i := 12) rfl, rfl, by decide +kernel, Or.inl ⟨rfl, rfl, mt_7 (i := 126) rfl, mt_7 (i := 127) rfl⟩⟩
set_option maxRecDepth 20000 in
theorem yf_219 : YF 219 := ⟨mt_7 (i := 140) rfl, mt_1 (i := 12) rfl, rfl, by decide +kernel, Or.inl ⟨rfl, rfl, mt_7 (i := 138) rfl, mt_7 (i := 139) rfl⟩⟩
set_option maxRecDepth 20000 in
theorem yf_220 : YF 220 := ⟨mt_7 (i := 144) rfl, mt_1 (i := 12) rfl, rfl, by decide +kernel, Or.inl ⟨rfl, rfl, mt_7 (i := 142) rfl, mt_7 (i := 143) rfl⟩⟩
set_option maxRecDepth 20000 in
theorem yf_221 : YF 221 := ⟨mt_7 (i := 148) rfl, mt_1 (i := 12) rfl, rfl, by decide +kernel, Or.inl ⟨rfl, rfl, mt_7 (i := 146) rfl, mt_7 (i := 147) rfl⟩⟩
set_option maxRecDepth 20000 in
theorem yf_222 : YF 222 := ⟨mt_7 (i := 152) rfl, mt_1 (i := 12) rfl, rfl, by decide +kernel, Or.inl ⟨rfl, rfl, mt_7 (i := 150) rfl, mt_7 (i := 151) rfl⟩⟩
set_option maxRecDepth 20000 in
theorem yf_223 : YF 223 := ⟨mt_7 (i := 172) rfl, mt_1 (i := 12) rfl, rfl, by decide +kernel, Or.inl ⟨rfl, rfl, mt_7 (i := 170) rfl, mt_7 (i := 171) rfl⟩⟩
set_option maxRecDepth 20000 in
theorem yf_224 : YF 224 := ⟨mt_7 (i := 188) rfl, mt_1 (i := 12) rfl, rfl, by decide +kernel, Or.inl ⟨rfl, rfl, mt_7 (i := 186) rfl, mt_7 (i := 187) rfl⟩⟩
set_option maxRecDepth 20000 in
theorem yf_225 : YF 225 := ⟨mt_7 (i := 193) rfl, mt_1 (i := 12) rfl, rfl, by decide +kernel, Or.inl ⟨rfl, rfl, mt_7 (i := 191) rfl, mt_7 (i := 192) rfl⟩⟩
set_option maxRecDepth 20000 in
theorem yf_226 : YF 226 := ⟨mt_7 (i := 209) rfl, mt_1 (i := 12) rfl, rfl, by decide +kernel, Or.inl ⟨rfl, rfl, mt_7 (i := 207) rfl, mt_7 (i := 208) rfl⟩⟩
set_option maxRecDepth 20000 in
theorem yf_227 : YF 227 := ⟨mt_7 (i := 213) rfl, mt_1 (i := 12) rfl, rfl, by decide +kernel, Or.inl ⟨rfl, rfl, mt_7 (i := 211) rfl, mt_7 (i := 212) rfl⟩⟩
set_option maxRecDepth 20000 in
theorem yf_228 : YF 228 := ⟨mt_7 (i := 221) rfl, mt_1 (i := 12) rfl, rfl, by decide +kernel, Or.inl ⟨rfl, rfl, mt_7 (i := 220) rfl, ms_w (ms_7 (i := 14) rfl) rfl⟩⟩
set_option maxRecDepth 20000 in
theorem yf_229 : YF 229 := ⟨mt_7 (i := 217) rfl, mt_1 (i := 12) rfl, rfl, by decide +kernel, Or.inl ⟨rfl, rfl, mt_7 (i := 215) rfl, mt_7 (i := 216) rfl⟩⟩
set_option maxRecDepth 20000 in
theorem yf_230 : YF 230 := ⟨mt_3 (i := 44) rfl, mt_1 (i := 0) rfl, rfl, by decide +kernel, Or.inr (Or.inl ⟨rfl, mt_3 (i := 43) rfl⟩)⟩
set_option maxRecDepth 20000 in
theorem yf_231 : YF 231 := ⟨mt_4 (i := 130) rfl, mt_1 (i := 0) rfl, rfl, by decide +kernel, Or.inr (Or.inl ⟨rfl, mt_4 (i := 129) rfl⟩)⟩
set_option maxRecDepth 20000 in
theorem yf_232 : YF 232 := ⟨mt_4 (i := 138) rfl, mt_1 (i := 0) rfl, rfl, by decide +kernel, Or.inr (Or.inl ⟨rfl, mt_4 (i := 137) rfl⟩)⟩
set_option maxRecDepth 20000 in
theorem yf_233 : YF 233 := ⟨mt_4 (i := 166) rfl, mt_1 (i := 0) rfl, rfl, by decide +kernel, Or.inr (Or.inl ⟨rfl, mt_4 (i := 165) rfl⟩)⟩
set_option maxRecDepth 20000 in
theorem yf_234 : YF 234 := ⟨mt_4 (i := 174) rfl, mt_1 (i := 0) rfl, rfl, by decide +kernel, Or.inr (Or.inl ⟨rfl, mt_4 (i := 173) rfl⟩)⟩
set_option maxRecDepth 20000 in
theorem yf_235 : YF 235 := ⟨mt_4 (i := 204) rfl, mt_1 (i := 0) rfl, rfl, by decide +kernel, Or.inr (Or.inl ⟨rfl, mt_4 (i := 203) rfl⟩)⟩
set_option maxRecDepth 20000 in
theorem yf_236 : YF 236 := ⟨mt_4 (i := 212) rfl, mt_1 (i := 0) rfl, rfl, by decide +kernel, Or.inr (Or.inl ⟨rfl, mt_4 (i := 211) rfl⟩)⟩
set_option maxRecDepth 20000 in
theorem yf_237 : YF 237 := ⟨mt_4 (i := 226) rfl, mt_1 (i := 0) rfl, rfl, by decide +kernel, Or.inr (Or.inl ⟨rfl, mt_4 (i := 225) rfl⟩)⟩
set_option maxRecDepth 20000 in
theorem yf_238 : YF 238 := ⟨mt_5 (i := 0) rfl, mt_1 (i := 0) rfl, rfl, by decide +kernel, Or.inr (Or.inl ⟨rfl, mt_4 (i := 239) rfl⟩)⟩
set_option maxRecDepth 20000 in
theorem yf_239 : YF 239 := ⟨mt_5 (i := 7) rfl, mt_1 (i := 0) rfl, rfl, by decide +kernel, Or.inr (Or.inl ⟨rfl, mt_5 (i := 6) rfl⟩)⟩
set_option maxRecDepth 20000 in
theorem yf_240 : YF 240 := ⟨mt_5 (i := 18) rfl, mt_1 (i := 0) rfl, rfl, by decide +kernel, Or.inr (Or.inl ⟨rfl, mt_5 (i := 17) rfl⟩)⟩
set_option maxRecDepth 20000 in
theorem yf_241 : YF 241 := ⟨mt_5 (i := 25) rfl, mt_1 (i := 0) rfl, rfl, by decide +kernel, Or.inr (Or.inl ⟨rfl, mt_5 (i := 24) rfl⟩)⟩
set_option maxRecDepth 20000 in
theorem yf_242 : YF 242 := ⟨mt_5 (i := 33) rfl, mt_1 (i := 0) rfl, rfl, by decide +kernel, Or.inr (Or.inl ⟨rfl, mt_5 (i := 32) rfl⟩)⟩
set_option maxRecDepth 20000 in
theorem yf_243 : YF 243 := ⟨mt_5 (i := 66) rfl, mt_1 (i := 0) rfl, rfl, by decide +kernel, Or.inr (Or.inl ⟨rfl, mt_5 (i := 65) rfl⟩)⟩
set_option maxRecDepth 20000 in
theorem yf_244 : YF 244 := ⟨mt_5 (i := 74) rfl, mt_1 (i := 0) rfl, rfl, by decide +kernel, Or.inr (Or.inl ⟨rfl, mt_5 (i := 73) rfl⟩)⟩
set_option maxRecDepth 20000 in
theorem yf_245 : YF 245 := ⟨mt_5 (i := 82) rfl, mt_1 (i := 0) rfl, rfl, by decide +kernel, Or.inr (Or.inl ⟨rfl, mt_5 (i := 81) rfl⟩)⟩
set_option maxRecDepth 20000 in
theorem yf_246 : YF 246 := ⟨mt_5 (i := 90) rfl, mt_1 (i := 0) rfl, rfl, by decide +kernel, Or.inr (Or.inl ⟨rfl, mt_5 (i := 89) rfl⟩)⟩
set_option maxRecDepth 20000 in
theorem yf_247 : YF 247 := ⟨mt_5 (i := 114) rfl, mt_1 (i := 0) rfl, rfl, by decide +kernel, Or.inr (Or.inl ⟨rfl, mt_5 (i := 113) rfl⟩)⟩
set_option maxRecDepth 20000 in
theorem yf_248 : YF 248 := ⟨mt_5 (i := 137) rfl, mt_1 (i := 0) rfl, rfl, by decide +kernel, Or.inr (Or.inl ⟨rfl, mt_5 (i := 136) rfl⟩)⟩
set_option maxRecDepth 20000 in
theorem yf_249 : YF 249 := ⟨mt_5 (i := 146) rfl, mt_1 (i := 0) rfl, rfl, by decide +kernel, Or.inr (Or.inl ⟨rfl, mt_5 (i := 145) rfl⟩)⟩
set_option maxRecDepth 20000 in
theorem yf_250 : YF 250 := ⟨mt_5 (i := 161) rfl, mt_1 (i := 0) rfl, rfl, by decide +kernel, Or.inr (Or.inl ⟨rfl, mt_5 (i := 160) rfl⟩)⟩
set_option maxRecDepth 20000 in
theorem yf_b0 : ∀ y ∈ List.range' 0 21, YF y := List.forall_mem_cons.mpr ⟨yf_0, List.forall_mem_cons.mpr ⟨yf_1, List.forall_mem_cons.mpr ⟨yf_2, List.forall_mem_cons.mpr ⟨yf_3, List.forall_mem_cons.mpr ⟨yf_4, List.forall_mem_cons.mpr ⟨yf_5, List.forall_mem_cons.mpr ⟨yf_6, List.forall_mem_cons.mpr ⟨yf_7, List.forall_mem_cons.mpr ⟨yf_8, List.forall_mem_cons.mpr ⟨yf_9, List.forall_mem_cons.mpr ⟨yf_10, List.forall_mem_cons.mpr ⟨yf_11, List.forall_mem_cons.mpr ⟨yf_12, List.forall_mem_cons.mpr ⟨yf_13, List.forall_mem_cons.mpr ⟨yf_14, List.forall_mem_cons.mpr ⟨yf_15, List.forall_mem_cons.mpr ⟨yf_16, List.forall_mem_cons.mpr ⟨yf_17, List.forall_mem_cons.mpr ⟨yf_18, List.forall_mem_cons.mpr ⟨yf_19, List.forall_mem_cons.mpr ⟨yf_20, fun _ h => absurd h List.not_mem_nil⟩⟩⟩⟩⟩⟩⟩⟩⟩⟩⟩⟩⟩⟩⟩⟩⟩⟩⟩⟩⟩
set_option maxRecDepth 20000 in
theorem yf_b1 : ∀ y ∈ List.range' 21 21, YF y := List.forall_mem_cons.mpr ⟨yf_21, List.forall_mem_cons.mpr ⟨yf_22, List.forall_mem_cons.mpr ⟨yf_23, List.forall_mem_cons.mpr ⟨yf_24, List.forall_mem_cons.mpr ⟨yf_25, List.forall_mem_cons.mpr ⟨yf_26, List.forall_mem_cons.mpr ⟨yf_27, List.forall_mem_cons.mpr ⟨yf_28, List.forall_mem_cons.mpr ⟨yf_29, List.forall_mem_cons.mpr ⟨yf_30, List.forall_mem_cons.mpr ⟨yf_31, List.forall_mem_cons.mpr ⟨yf_32, List.forall_mem_cons.mpr ⟨yf_33, List.forall_mem_cons.mpr ⟨yf_34, List.forall_mem_cons.mpr ⟨yf_35, List.forall_mem_cons.mpr ⟨yf_36, List.forall_mem_cons.mpr ⟨yf_37, List.forall_mem_cons.mpr ⟨yf_38, List.forall_mem_cons.mpr ⟨yf_39, List.forall_mem_cons.mpr ⟨yf_40, List.forall_mem_cons.mpr ⟨yf_41, fun _ h => absurd h List.not_mem_nil⟩⟩⟩⟩⟩⟩⟩⟩⟩⟩⟩⟩⟩⟩⟩⟩⟩⟩⟩⟩⟩
set_option maxRecDepth 20000 in
theorem yf_b2 : ∀ y ∈ List.range' 42 21, YF y := List.forall_mem_cons.mpr ⟨yf_42, List.forall_mem_cons.mpr ⟨yf_43, List.forall_mem_cons.mpr ⟨yf_44, List.forall_mem_cons.mpr ⟨yf_45, List.forall_mem_cons.mpr ⟨yf_46, List.forall_mem_cons.mpr ⟨yf_47, List.forall_mem_cons.mpr ⟨yf_48, List.forall_mem_cons.mpr ⟨yf_49, List.forall_mem_cons.mpr ⟨yf_50, List.forall_mem_cons.mpr ⟨yf_51, List.forall_mem_cons.mpr ⟨yf_52, List.forall_mem_cons.mpr ⟨yf_53, List.forall_mem_cons.mpr ⟨yf_54, List.forall_mem_cons.mpr ⟨yf_55, List.forall_mem_cons.mpr ⟨yf_56, List.forall_mem_cons.mpr ⟨yf_57, List.forall_mem_cons.mpr ⟨yf_58, List.forall_mem_cons.mpr ⟨yf_59, List.forall_mem_cons.mpr ⟨yf_60, List.forall_mem_cons.mpr ⟨yf_61, List.forall_mem_cons.mpr ⟨yf_62, fun _ h => absurd h List.not_mem_nil⟩⟩⟩⟩⟩⟩⟩⟩⟩⟩⟩⟩⟩⟩⟩⟩⟩⟩⟩⟩⟩
set_option maxRecDepth 20000 in
theorem yf_b3 : ∀ y ∈ List.range' 63 21, YF y := List.forall_mem_cons.mpr ⟨yf_63, List.forall_mem_cons.mpr ⟨yf_64, List.forall_mem_cons.mpr ⟨yf_65, List.forall_mem_cons.mpr ⟨yf_66, List.forall_mem_cons.mpr ⟨yf_67, List.forall_mem_cons.mpr ⟨yf_68, List.forall_mem_cons.mpr ⟨yf_69, List.forall_mem_cons.mpr ⟨yf_70, List.forall_mem_cons.mpr ⟨yf_71, List.forall_mem_cons.mpr ⟨yf_72, List.forall_mem_cons.mpr ⟨yf_73, List.forall_mem_cons.mpr ⟨yf_74, List.forall_mem_cons.mpr ⟨yf_75, List.forall_mem_cons.mpr ⟨yf_76, List.forall_mem_cons.mpr ⟨yf_77, List.forall_mem_cons.mpr ⟨yf_78, List.forall_mem_cons.mpr ⟨yf_79, List.forall_mem_cons.mpr ⟨yf_80, List.forall_mem_cons.mpr ⟨yf_81, List.forall_mem_cons.mpr ⟨yf_82, List.forall_mem_cons.mpr ⟨yf_83, fun _ h => absurd h List.not_mem_nil⟩⟩⟩⟩⟩⟩⟩⟩⟩⟩⟩⟩⟩⟩⟩⟩⟩⟩⟩⟩⟩
set_option maxRecDepth 20000 in
theorem yf_b4 : ∀ y ∈ List.range' 84 21, YF y := List.forall_mem_cons.mpr ⟨yf_84, List.forall_mem_cons.mpr ⟨yf_85, List.forall_mem_cons.mpr ⟨yf_86, List.forall_mem_cons.mpr ⟨yf_87, List.forall_mem_cons.mpr ⟨yf_88, List.forall_mem_cons.mpr ⟨yf_89, List.forall_mem_cons.mpr ⟨yf_90, List.forall_mem_cons.mpr ⟨yf_91, List.forall_mem_cons.mpr ⟨yf_92, List.forall_mem_cons.mpr ⟨yf_93, List.forall_mem_cons.mpr ⟨yf_94, List.forall_mem_cons.mpr ⟨yf_95, List.forall_mem_cons.mpr ⟨yf_96, List.forall_mem_cons.mpr ⟨yf_97, List.forall_mem_cons.mpr ⟨yf_98, List.forall_mem_cons.mpr ⟨yf_99, List.forall_mem_cons.mpr ⟨yf_100, List.forall_mem_cons.mpr ⟨yf_101, List.forall_mem_cons.mpr ⟨yf_102, List.forall_mem_cons.mpr ⟨yf_103, List.forall_mem_cons.mpr ⟨yf_104, fun _ h => absurd h List.not_mem_nil⟩⟩⟩⟩⟩⟩⟩⟩⟩⟩⟩⟩⟩⟩⟩⟩⟩⟩⟩⟩⟩
set_option maxRecDepth 20000 in
theorem yf_b5 : ∀ y ∈ List.range' 105 21, YF y := List.forall_mem_cons.mpr ⟨yf_105, List.forall_mem_cons.mpr ⟨yf_106, List.forall_mem_cons.mpr ⟨yf_107, List.forall_mem_cons.mpr ⟨yf_108, List.forall_mem_cons.mpr ⟨yf_109, List.forall_mem_cons.mpr ⟨yf_110, List.forall_mem_cons.mpr ⟨yf_111, List.forall_mem_cons.mpr ⟨yf_112, List.forall_mem_cons.mpr ⟨yf_113, List.forall_mem_cons.mpr ⟨yf_114, List.forall_mem_cons.mpr ⟨yf_115, List.forall_mem_cons.mpr ⟨yf_116, List.forall_mem_cons.mpr ⟨yf_117, List.forall_mem_cons.mpr ⟨yf_118, List.forall_mem_cons.mpr ⟨yf_119, List.forall_mem_cons.mpr ⟨yf_120, List.forall_mem_cons.mpr ⟨yf_121, List.forall_mem_cons.mpr ⟨yf_122, List.forall_mem_cons.mpr ⟨yf_123, List.forall_mem_cons.mpr ⟨yf_124, List.forall_mem_cons.mpr ⟨yf_125, fun _ h => absurd h List.not_mem_nil⟩⟩⟩⟩⟩⟩⟩⟩⟩⟩⟩⟩⟩⟩⟩⟩⟩⟩⟩⟩⟩
set_option maxRecDepth 20000 in
theorem yf_b6 : ∀ y ∈ List.range' 126 21, YF y := List.forall_mem_cons.mpr ⟨yf_126, List.forall_mem_cons.mpr ⟨yf_127, List.forall_mem_cons.mpr ⟨yf_128, List.forall_mem_cons.mpr ⟨yf_129, List.forall_mem_cons.mpr ⟨yf_130, List.forall_mem_cons.mpr ⟨yf_131, List.forall_mem_cons.mpr ⟨yf_132, List.forall_mem_cons.mpr ⟨yf_133, List.forall_mem_cons.mpr ⟨yf_134, List.forall_mem_cons.mpr ⟨yf_135, List.forall_mem_cons.mpr ⟨yf_136, List.forall_mem_cons.mpr ⟨yf_137, List.forall_mem_cons.mpr ⟨yf_138, List.forall_mem_cons.mpr ⟨yf_139, List.forall_mem_cons.mpr ⟨yf_140, List.forall_mem_cons.mpr ⟨yf_141, List.forall_mem_cons.mpr ⟨yf_142, List.forall_mem_cons.mpr ⟨yf_143, List.forall_mem_cons.mpr ⟨yf_144, List.forall_mem_cons.mpr ⟨yf_145, List.forall_mem_cons.mpr ⟨yf_146, fun _ h => absurd h List.not_mem_nil⟩⟩⟩⟩⟩⟩⟩⟩⟩⟩⟩⟩⟩⟩⟩⟩⟩⟩⟩⟩⟩
set_option maxRecDepth 20000 in
theorem yf_b7 : ∀ y ∈ List.range' 147 21, YF y := List.forall_mem_cons.mpr ⟨yf_147, List.forall_mem_cons.mpr ⟨yf_148, List.forall_mem_cons.mpr ⟨yf_149, List.forall_mem_cons.mpr ⟨yf_150, List.forall_mem_cons.mpr ⟨yf_151, List.forall_mem_cons.mpr ⟨yf_152, List.forall_mem_cons.mpr ⟨yf_153, List.forall_mem_cons.mpr ⟨yf_154, List.forall_mem_cons.mpr ⟨yf_155, List.forall_mem_cons.mpr ⟨yf_156, List.forall_mem_cons.mpr ⟨yf_157, List.forall_mem_cons.mpr ⟨yf_158, List.forall_mem_cons.mpr ⟨yf_159, List.forall_mem_cons.mpr ⟨yf_160, List.forall_mem_cons.mpr ⟨yf_161, List.forall_mem_cons.mpr ⟨yf_162, List.forall_mem_cons.mpr ⟨yf_163, List.forall_mem_cons.mpr ⟨yf_164, List.forall_mem_cons.mpr ⟨yf_165, List.forall_mem_cons.mpr ⟨yf_166, List.forall_mem_cons.mpr ⟨yf_167, fun _ h => absurd h List.not_mem_nil⟩⟩⟩⟩⟩⟩⟩⟩⟩⟩⟩⟩⟩⟩⟩⟩⟩⟩⟩⟩⟩
set_option maxRecDepth 20000 in
theorem yf_b8 : ∀ y ∈ List.range' 168 21, YF y := List.forall_mem_cons.mpr ⟨yf_168, List.forall_mem_cons.mpr ⟨yf_169, List.forall_mem_cons.mpr ⟨yf_170, List.forall_mem_cons.mpr ⟨yf_171, List.forall_mem_cons.mpr ⟨yf_172, List.forall_mem_cons.mpr ⟨yf_173, List.forall_mem_cons.mpr ⟨yf_174, List.forall_mem_cons.mpr ⟨yf_175, List.forall_mem_cons.mpr ⟨yf_176, List.forall_mem_cons.mpr ⟨yf_177, List.forall_mem_cons.mpr ⟨yf_178, List.forall_mem_cons.mpr ⟨yf_179, List.forall_mem_cons.mpr ⟨yf_180, List.forall_mem_cons.mpr ⟨yf_181, List.forall_mem_cons.mpr ⟨yf_182, List.forall_mem_cons.mpr ⟨yf_183, List.forall_mem_cons.mpr ⟨yf_184, List.forall_mem_cons.mpr ⟨yf_185, List.forall_mem_cons.mpr ⟨yf_186, List.forall_mem_cons.mpr ⟨yf_187, List.forall_mem_cons.mpr ⟨yf_188, fun _ h => absurd h List.not_mem_nil⟩⟩⟩⟩⟩⟩⟩⟩⟩⟩⟩⟩⟩⟩⟩⟩⟩⟩⟩⟩⟩
set_option maxRecDepth 20000 in
theorem yf_b9 : ∀ y ∈ List.range' 189 21, YF y := List.forall_mem_cons.mpr ⟨yf_189, List.forall_mem_cons.mpr ⟨yf_190, List.forall_mem_cons.mpr ⟨yf_191, List.forall_mem_cons.mpr ⟨yf_192, List.forall_mem_cons.mpr ⟨yf_193, List.forall_mem_cons.mpr ⟨yf_194, List.forall_mem_cons.mpr ⟨yf_195, List.forall_mem_cons.mpr ⟨yf_196, List.forall_mem_cons.mpr ⟨yf_197, List.forall_mem_cons.mpr ⟨yf_198, List.forall_mem_cons.mpr ⟨yf_199, List.forall_mem_cons.mpr ⟨yf_200, List.forall_mem_cons.mpr ⟨yf_201, List.forall_mem_cons.mpr ⟨yf_202, List.forall_mem_cons.mpr ⟨yf_203, List.forall_mem_cons.mpr ⟨yf_204, List.forall_mem_cons.mpr ⟨yf_205, List.forall_mem_cons.mpr ⟨yf_206, List.forall_mem_cons.mpr ⟨yf_207, List.forall_mem_cons.mpr ⟨yf_208, List.forall_mem_cons.mpr ⟨yf_209, fun _ h => absurd h List.not_mem_nil⟩⟩⟩⟩⟩⟩⟩⟩⟩⟩⟩⟩⟩⟩⟩⟩⟩⟩⟩⟩⟩
set_option maxRecDepth 20000 in
theorem yf_b10 : ∀ y ∈ List.range' 210 21, YF y := List.forall_mem_cons.mpr ⟨yf_210, List.forall_mem_cons.mpr ⟨yf_211, List.forall_mem_cons.mpr ⟨yf_212, List.forall_mem_cons.mpr ⟨yf_213, List.forall_mem_cons.mpr ⟨yf_214, List.forall_mem_cons.mpr ⟨yf_215, List.forall_mem_cons.mpr ⟨yf_216, List.forall_mem_cons.mpr ⟨yf_217, List.forall_mem_cons.mpr ⟨yf_218, List.forall_mem_cons.mpr ⟨yf_219, List.forall_mem_cons.mpr ⟨yf_220, List.forall_mem_cons.mpr ⟨yf_221, List.forall_mem_cons.mpr ⟨yf_222, List.forall_mem_cons.mpr ⟨yf_223, List.forall_mem_cons.mpr ⟨yf_224, List.forall_mem_cons.mpr ⟨yf_225, List.forall_mem_cons.mpr ⟨yf_226, List.forall_mem_cons.mpr ⟨yf_227, List.forall_mem_cons.mpr ⟨yf_228, List.forall_mem_cons.mpr ⟨yf_229, List.forall_mem_cons.mpr ⟨yf_230, fun _ h => absurd h List.not_mem_nil⟩⟩⟩⟩⟩⟩⟩⟩⟩⟩⟩⟩⟩⟩⟩⟩⟩⟩⟩⟩⟩
set_option maxRecDepth 20000 in
theorem yf_b11 : ∀ y ∈ List.range' 231 20, YF y := List.forall_mem_cons.mpr ⟨yf_231, List.forall_mem_cons.mpr ⟨yf_232, List.forall_mem_cons.mpr ⟨yf_233, List.forall_mem_cons.mpr ⟨yf_234, List.forall_mem_cons.mpr ⟨yf_235, List.forall_mem_cons.mpr ⟨yf_236, List.forall_mem_cons.mpr ⟨yf_237, List.forall_mem_cons.mpr ⟨yf_238, List.forall_mem_cons.mpr ⟨yf_239, List.forall_mem_cons.mpr ⟨yf_240, List.forall_mem_cons.mpr ⟨yf_241, List.forall_mem_cons.mpr ⟨yf_242, List.forall_mem_cons.mpr ⟨yf_243, List.forall_mem_cons.mpr ⟨yf_244, List.forall_mem_cons.mpr ⟨yf_245, List.forall_mem_cons.mpr ⟨yf_246, List.forall_mem_cons.mpr ⟨yf_247, List.forall_mem_cons.mpr ⟨yf_248, List.forall_mem_cons.mpr ⟨yf_249, List.forall_mem_cons.mpr ⟨yf_250, fun _ h => absurd h List.not_mem_nil⟩⟩⟩⟩⟩⟩⟩⟩⟩⟩⟩⟩⟩⟩⟩⟩⟩⟩⟩⟩
set_option maxRecDepth 20000 in
theorem yf_all (y : Nat) (h : y < 251) : YF y := by
  rcases Nat.lt_or_ge y 21 with h0 | h0
  · exact yf_b0 y (List.mem_range'_1.mpr ⟨Nat.zero_le _, by omega⟩)
  rcases Nat.lt_or_ge y 42 with h1 | h1
  · exact yf_b1 y (List.mem_range'_1.mpr ⟨h0, by omega⟩)
  rcases Nat.lt_or_ge y 63 with h2 | h2
  · exact yf_b2 y (List.mem_range'_1.mpr ⟨h1, by omega⟩)
  rcases Nat.lt_or_ge y 84 with h3 | h3
  · exact yf_b3 y (List.mem_range'_1.mpr ⟨h2, by omega⟩)
  rcases Nat.lt_or_ge y 105 with h4 | h4
  · exact yf_b4 y (List.mem_range'_1.mpr ⟨h3, by omega⟩)
  rcases Nat.lt_or_ge y 126 with h5 | h5
  · exact yf_b5 y (List.mem_range'_1.mpr ⟨h4, by omega⟩)
  rcases Nat.lt_or_ge y 147 with h6 | h6
  · exact yf_b6 y (List.mem_range'_1.mpr ⟨h5, by omega⟩)
  rcases Nat.lt_or_ge y 168 with h7 | h7
  · exact yf_b7 y (List.mem_range'_1.mpr ⟨h6, by omega⟩)
  rcases Nat.lt_or_ge y 189 with h8 | h8
  · exact yf_b8 y (List.mem_range'_1.mpr ⟨h7, by omega⟩)
  rcases Nat.lt_or_ge y 210 with h9 | h9
  · exact yf_b9 y (List.mem_range'_1.mpr ⟨h8, by omega⟩)
  rcases Nat.lt_or_ge y 231 with h10 | h10
  · exact yf_b10 y (List.mem_range'_1.mpr ⟨h9, by omega⟩)
  rcases Nat.lt_or_ge y 251 with h11 | h11
  · exact yf_b11 y (List.mem_range'_1.mpr ⟨h10, by omega⟩)
  exact absurd h (by omega)
theorem pn_all (cx : Nat) (h : cx < 13) : plainName (cnm cx) = true ∧ cnm cx ≠ "java/lang/invoke/MethodHandle" ∧ cnm cx ≠ "java/lang/invoke/VarHandle" := by
  match cx, h with
  | 0, _ => exact ⟨by decide +kernel, by decide +kernel, by decide +kernel⟩
  | 1, _ => exact ⟨by decide +kernel, by decide +kernel, by decide +kernel⟩
  | 2, _ => exact ⟨by decide +kernel, by decide +kernel, by decide +kernel⟩
  | 3, _ => exact ⟨by decide +kernel, by decide +kernel, by decide +kernel⟩
  | 4, _ => exact ⟨by decide +kernel, by decide +kernel, by decide +kernel⟩
  | 5, _ => exact ⟨by decide +kernel, by decide +kernel, by decide +kernel⟩
  | 6, _ => exact ⟨by decide +kernel, by decide +kernel, by decide +kernel⟩
  | 7, _ => exact ⟨by decide +kernel, by decide +kernel, by decide +kernel⟩
  | 8, _ => exact ⟨by decide +kernel, by decide +kernel, by decide +kernel⟩
  | 9, _ => exact ⟨by decide +kernel, by decide +kernel, by decide +kernel⟩
  | 10, _ => exact ⟨by decide +kernel, by decide +kernel, by decide +kernel⟩
  | 11, _ => exact ⟨by decide +kernel, by decide +kernel, by decide +kernel⟩
  | 12, _ => exact ⟨by decide +kernel, by decide +kernel, by decide +kernel⟩
def tcF : FieldType → Nat
  | .int => 0
  | .long => 1
  | .object _ => 2
  | .array _ => 2
  | _ => 9
def KF (ci : Nat) : Prop := (∀ w ∈ u_ws (cN9 ci) (cT9 ci) (cS9 ci), w ∈ lw_tbl) ∧ (∀ k, k < cS9 ci → parseFieldDescriptor (cT9 ci k).2.2.1 = some (tyf ci k)) ∧ (∀ a, a < cS9 ci → ∀ b, b < cS9 ci → a ≠ b → (cT9 ci a).2.1 ≠ (cT9 ci b).2.1) ∧ cS9 ci = fcn ci ∧ cN9 ci = cnm ci ∧ (∀ k, k < cS9 ci → tcF (tyf ci k) = ftc ci k ∧ ftc ci k < 3) ∧ cls9[ci]? = some (cN9 ci, cT9 ci, cS9 ci)
set_option maxRecDepth 20000 in
theorem kf_0 : KF 0 := ⟨List.forall_mem_cons.mpr ⟨mt_1 (i := 229) rfl, List.forall_mem_cons.mpr ⟨mt_1 (i := 231) rfl, List.forall_mem_cons.mpr ⟨mt_1 (i := 233) rfl, List.forall_mem_cons.mpr ⟨mt_1 (i := 235) rfl, List.forall_mem_cons.mpr ⟨mt_1 (i := 237) rfl, List.forall_mem_cons.mpr ⟨mt_1 (i := 239) rfl, fun _ h => absurd h List.not_mem_nil⟩⟩⟩⟩⟩⟩, by decide +kernel, by decide +kernel, rfl, rfl, by decide +kernel, rfl⟩
set_option maxRecDepth 20000 in
theorem kf_1 : KF 1 := ⟨List.forall_mem_cons.mpr ⟨mt_1 (i := 205) rfl, List.forall_mem_cons.mpr ⟨mt_1 (i := 207) rfl, List.forall_mem_cons.mpr ⟨mt_1 (i := 209) rfl, List.forall_mem_cons.mpr ⟨mt_1 (i := 211) rfl, List.forall_mem_cons.mpr ⟨mt_1 (i := 213) rfl, List.forall_mem_cons.mpr ⟨mt_1 (i := 215) rfl, List.forall_mem_cons.mpr ⟨mt_1 (i := 217) rfl, List.forall_mem_cons.mpr ⟨mt_1 (i := 219) rfl, fun _ h => absurd h List.not_mem_nil⟩⟩⟩⟩⟩⟩⟩⟩, by decide +kernel, by decide +kernel, rfl, rfl, by decide +kernel, rfl⟩
set_option maxRecDepth 20000 in
theorem kf_2 : KF 2 := ⟨List.forall_mem_cons.mpr ⟨mt_1 (i := 53) rfl, List.forall_mem_cons.mpr ⟨mt_1 (i := 55) rfl, List.forall_mem_cons.mpr ⟨mt_1 (i := 57) rfl, List.forall_mem_cons.mpr ⟨mt_1 (i := 59) rfl, List.forall_mem_cons.mpr ⟨mt_1 (i := 61) rfl, List.forall_mem_cons.mpr ⟨mt_1 (i := 63) rfl, List.forall_mem_cons.mpr ⟨mt_1 (i := 65) rfl, List.forall_mem_cons.mpr ⟨mt_1 (i := 67) rfl, fun _ h => absurd h List.not_mem_nil⟩⟩⟩⟩⟩⟩⟩⟩, by decide +kernel, by decide +kernel, rfl, rfl, by decide +kernel, rfl⟩
set_option maxRecDepth 20000 in
theorem kf_3 : KF 3 := ⟨List.forall_mem_cons.mpr ⟨mt_1 (i := 149) rfl, List.forall_mem_cons.mpr ⟨mt_1 (i := 151) rfl, List.forall_mem_cons.mpr ⟨mt_1 (i := 153) rfl, List.forall_mem_cons.mpr ⟨mt_1 (i := 155) rfl, List.forall_mem_cons.mpr ⟨mt_1 (i := 157) rfl, List.forall_mem_cons.mpr ⟨mt_1 (i := 159) rfl, List.forall_mem_cons.mpr ⟨mt_1 (i := 161) rfl, List.forall_mem_cons.mpr ⟨mt_1 (i := 163) rfl, List.forall_mem_cons.mpr ⟨mt_1 (i := 165) rfl, List.forall_mem_cons.mpr ⟨mt_1 (i := 167) rfl, List.forall_mem_cons.mpr ⟨mt_1 (i := 169) rfl, List.forall_mem_cons.mpr ⟨mt_1 (i := 171) rfl, List.forall_mem_cons.mpr ⟨mt_1 (i := 173) rfl, List.forall_mem_cons.mpr ⟨mt_1 (i := 175) rfl, List.forall_mem_cons.mpr ⟨mt_1 (i := 177) rfl, fun _ h => absurd h List.not_mem_nil⟩⟩⟩⟩⟩⟩⟩⟩⟩⟩⟩⟩⟩⟩⟩, by decide +kernel, by decide +kernel, rfl, rfl, by decide +kernel, rfl⟩
set_option maxRecDepth 20000 in
theorem kf_4 : KF 4 := ⟨List.forall_mem_cons.mpr ⟨mt_2 (i := 113) rfl, List.forall_mem_cons.mpr ⟨mt_2 (i := 115) rfl, List.forall_mem_cons.mpr ⟨mt_2 (i := 117) rfl, fun _ h => absurd h List.not_mem_nil⟩⟩⟩, by decide +kernel, by decide +kernel, rfl, rfl, by decide +kernel, rfl⟩
set_option maxRecDepth 20000 in
theorem kf_5 : KF 5 := ⟨List.forall_mem_cons.mpr ⟨mt_2 (i := 63) rfl, List.forall_mem_cons.mpr ⟨mt_2 (i := 65) rfl, List.forall_mem_cons.mpr ⟨mt_2 (i := 67) rfl, List.forall_mem_cons.mpr ⟨mt_2 (i := 69) rfl, List.forall_mem_cons.mpr ⟨mt_2 (i := 71) rfl, fun _ h => absurd h List.not_mem_nil⟩⟩⟩⟩⟩, by decide +kernel, by decide +kernel, rfl, rfl, by decide +kernel, rfl⟩
set_option maxRecDepth 20000 in
theorem kf_6 : KF 6 := ⟨List.forall_mem_cons.mpr ⟨mt_2 (i := 89) rfl, List.forall_mem_cons.mpr ⟨mt_2 (i := 91) rfl, List.forall_mem_cons.mpr ⟨mt_2 (i := 93) rfl, List.forall_mem_cons.mpr ⟨mt_2 (i := 95) rfl, List.forall_mem_cons.mpr ⟨mt_2 (i := 97) rfl, fun _ h => absurd h List.not_mem_nil⟩⟩⟩⟩⟩, by decide +kernel, by decide +kernel, rfl, rfl, by decide +kernel, rfl⟩
set_option maxRecDepth 20000 in
theorem kf_7 : KF 7 := ⟨List.forall_mem_cons.mpr ⟨mt_2 (i := 39) rfl, List.forall_mem_cons.mpr ⟨mt_2 (i := 41) rfl, List.forall_mem_cons.mpr ⟨mt_2 (i := 43) rfl, List.forall_mem_cons.mpr ⟨mt_2 (i := 45) rfl, List.forall_mem_cons.mpr ⟨mt_2 (i := 47) rfl, fun _ h => absurd h List.not_mem_nil⟩⟩⟩⟩⟩, by decide +kernel, by decide +kernel, rfl, rfl, by decide +kernel, rfl⟩
set_option maxRecDepth 20000 in
theorem kf_8 : KF 8 := ⟨List.forall_mem_cons.mpr ⟨mt_1 (i := 91) rfl, List.forall_mem_cons.mpr ⟨mt_1 (i := 93) rfl, List.forall_mem_cons.mpr ⟨mt_1 (i := 95) rfl, List.forall_mem_cons.mpr ⟨mt_1 (i := 97) rfl, List.forall_mem_cons.mpr ⟨mt_1 (i := 99) rfl, fun _ h => absurd h List.not_mem_nil⟩⟩⟩⟩⟩, by decide +kernel, by decide +kernel, rfl, rfl, by decide +kernel, rfl⟩
set_option maxRecDepth 20000 in
theorem kf_9 : KF 9 := ⟨List.forall_mem_cons.mpr ⟨mt_2 (i := 17) rfl, List.forall_mem_cons.mpr ⟨mt_2 (i := 19) rfl, List.forall_mem_cons.mpr ⟨mt_2 (i := 21) rfl, fun _ h => absurd h List.not_mem_nil⟩⟩⟩, by decide +kernel, by decide +kernel, rfl, rfl, by decide +kernel, rfl⟩
set_option maxRecDepth 20000 in
theorem kf_10 : KF 10 := ⟨List.forall_mem_cons.mpr ⟨mt_2 (i := 147) rfl, List.forall_mem_cons.mpr ⟨mt_2 (i := 149) rfl, List.forall_mem_cons.mpr ⟨mt_2 (i := 151) rfl, List.forall_mem_cons.mpr ⟨mt_2 (i := 153) rfl, List.forall_mem_cons.mpr ⟨mt_2 (i := 155) rfl, List.forall_mem_cons.mpr ⟨mt_2 (i := 157) rfl, List.forall_mem_cons.mpr ⟨mt_2 (i := 159) rfl, List.forall_mem_cons.mpr ⟨mt_2 (i := 161) rfl, List.forall_mem_cons.mpr ⟨mt_2 (i := 163) rfl, List.forall_mem_cons.mpr ⟨mt_2 (i := 165) rfl, List.forall_mem_cons.mpr ⟨mt_2 (i := 167) rfl, fun _ h => absurd h List.not_mem_nil⟩⟩⟩⟩⟩⟩⟩⟩⟩⟩⟩, by decide +kernel, by decide +kernel, rfl, rfl, by decide +kernel, rfl⟩
set_option maxRecDepth 20000 in
theorem kf_11 : KF 11 := ⟨List.forall_mem_cons.mpr ⟨mt_6 (i := 15) rfl, List.forall_mem_cons.mpr ⟨mt_6 (i := 17) rfl, List.forall_mem_cons.mpr ⟨mt_6 (i := 19) rfl, List.forall_mem_cons.mpr ⟨mt_6 (i := 21) rfl, List.forall_mem_cons.mpr ⟨mt_6 (i := 23) rfl, List.forall_mem_cons.mpr ⟨mt_6 (i := 25) rfl, List.forall_mem_cons.mpr ⟨mt_6 (i := 27) rfl, List.forall_mem_cons.mpr ⟨mt_6 (i := 29) rfl, List.forall_mem_cons.mpr ⟨mt_6 (i := 31) rfl, List.forall_mem_cons.mpr ⟨mt_6 (i := 33) rfl, List.forall_mem_cons.mpr ⟨mt_6 (i := 35) rfl, List.forall_mem_cons.mpr ⟨mt_6 (i := 37) rfl, List.forall_mem_cons.mpr ⟨mt_6 (i := 39) rfl, List.forall_mem_cons.mpr ⟨mt_6 (i := 41) rfl, List.forall_mem_cons.mpr ⟨mt_6 (i := 43) rfl, List.forall_mem_cons.mpr ⟨mt_6 (i := 45) rfl, List.forall_mem_cons.mpr ⟨mt_6 (i := 47) rfl, List.forall_mem_cons.mpr ⟨mt_6 (i := 49) rfl, List.forall_mem_cons.mpr ⟨mt_6 (i := 51) rfl, List.forall_mem_cons.mpr ⟨mt_6 (i := 53) rfl, List.forall_mem_cons.mpr ⟨mt_6 (i := 55) rfl, List.forall_mem_cons.mpr ⟨mt_6 (i := 57) rfl, List.forall_mem_cons.mpr ⟨mt_6 (i := 59) rfl, List.forall_mem_cons.mpr ⟨mt_6 (i := 61) rfl, List.forall_mem_cons.mpr ⟨mt_6 (i := 63) rfl, List.forall_mem_cons.mpr ⟨mt_6 (i := 65) rfl, List.forall_mem_cons.mpr ⟨mt_6 (i := 67) rfl, List.forall_mem_cons.mpr ⟨mt_6 (i := 69) rfl, List.forall_mem_cons.mpr ⟨mt_6 (i := 71) rfl, fun _ h => absurd h List.not_mem_nil⟩⟩⟩⟩⟩⟩⟩⟩⟩⟩⟩⟩⟩⟩⟩⟩⟩⟩⟩⟩⟩⟩⟩⟩⟩⟩⟩⟩⟩, by decide +kernel, by decide +kernel, rfl, rfl, by decide +kernel, rfl⟩
set_option maxRecDepth 20000 in
theorem kf_all (ci : Nat) (h : ci < 12) : KF ci := by
  match ci, h with
  | 0, _ => exact kf_0
  | 1, _ => exact kf_1
  | 2, _ => exact kf_2
  | 3, _ => exact kf_3
  | 4, _ => exact kf_4
  | 5, _ => exact kf_5
  | 6, _ => exact kf_6
  | 7, _ => exact kf_7
  | 8, _ => exact kf_8
  | 9, _ => exact kf_9
  | 10, _ => exact kf_10
  | 11, _ => exact kf_11
end
section
/-! THE SMALL MACHINE: the codes of this claim run as a function over a picture of the heap that knows each cell by a pair (number, component). 'stp' does one instruction, 'exN' a method, 'runM' a method with its calls. -/
abbrev AV : Type := Int32 ⊕ Int64 ⊕ (Nat × Nat) ⊕ Unit
abbrev AH : Type := (Nat × Nat × Nat) × (Nat → Nat → Nat → Option (Nat × Nat)) × (Nat → Nat → Nat → Int64) × (Nat → Nat → Nat → Int32)
abbrev vI (x : Int32) : AV := .inl x
abbrev vJ (x : Int64) : AV := .inr (.inl x)
abbrev vR (i c : Nat) : AV := .inr (.inr (.inl (i, c)))
abbrev vU : AV := .inr (.inr (.inr ()))
def hR (h : AH) : Nat → Nat → Nat → Option (Nat × Nat) := h.2.1
def hQ (h : AH) : Nat → Nat → Nat → Int64 := h.2.2.1
def hG (h : AH) : Nat → Nat → Nat → Int32 := h.2.2.2
def u3 {α : Type} (f : Nat → Nat → Nat → α) (i c k : Nat) (v : α) : Nat → Nat → Nat → α := fun i' c' k' => if i' = i ∧ c' = c ∧ k' = k then v else f i' c' k'
def u2 {α : Type} (f : Nat → Nat → Nat → α) (i c : Nat) (w : Nat → α) : Nat → Nat → Nat → α := fun i' c' k' => if i' = i ∧ c' = c then w k' else f i' c' k'
def sG (h : AH) (i c k : Nat) (v : Int32) : AH := (h.1, h.2.1, h.2.2.1, u3 h.2.2.2 i c k v)
def sQ (h : AH) (i c k : Nat) (v : Int64) : AH := (h.1, h.2.1, u3 h.2.2.1 i c k v, h.2.2.2)
def sR (h : AH) (i c k : Nat) (v : Nat × Nat) : AH := (h.1, u3 h.2.1 i c k (some v), h.2.2.1, h.2.2.2)
def sW (h : AH) (i c : Nat) (w : Nat → Int32) : AH := (h.1, h.2.1, h.2.2.1, u2 h.2.2.2 i c w)
/-- a new cell of n slots -/
def alc (h : AH) (n : Nat) : AH := match nm h.1.1 with
  | (i, c) => ((h.1.1 + 1, h.1.2.1 + 1, h.1.2.2 + n), u2 h.2.1 i c (fun _ => none), u2 h.2.2.1 i c (fun _ => 0), u2 h.2.2.2 i c (fun _ => 0))
/-- a thrown exception's cell isn't in the picture -/
def bump (h : AH) : AH := ((h.1.1, h.1.2.1 + 1, h.1.2.2 + 6), h.2)
def isO (c ci : Nat) : Bool := match KD c with
  | .inl x => Nat.beq x ci
  | .inr _ => false
def isA (c : Nat) : Option (Nat × Nat) := match KD c with
  | .inl _ => none
  | .inr p => some p
def cat1 : AV → Nat
  | .inr (.inl _) => 2
  | _ => 1
def cats : List AV → Nat
  | [] => 0
  | v :: r => cat1 v + cats r
/-- no long stands just ahead of this local -/
def nlo (lo : List AV) (i : Nat) : Bool := match i with
  | 0 => true
  | j + 1 => match lo[j]? with
    | some (.inr (.inl _)) => false
    | _ => true
abbrev SR : Type := (Nat × List AV × List AV × AH) ⊕ (Option AV) ⊕ (Nat × List AV × List AV) ⊕ Nat
abbrev sNx (pc : Nat) (lo st : List AV) (h : AH) : Option SR := some (.inl (pc, lo, st, h))
def ldI (lo : List AV) (st : List AV) (np k : Nat) (h : AH) : Option SR := match lo[k]? with
  | some (.inl x) => sNx np lo (vI x :: st) h
  | _ => none
def ldJ (lo : List AV) (st : List AV) (np k : Nat) (h : AH) : Option SR := match lo[k]? with
  | some (.inr (.inl x)) => sNx np lo (vJ x :: st) h
  | _ => none
def ldA (lo : List AV) (st : List AV) (np k : Nat) (h : AH) : Option SR := match lo[k]? with
  | some (.inr (.inr (.inl p))) => sNx np lo (.inr (.inr (.inl p)) :: st) h
  | _ => none
def stI (lo : List AV) (st : List AV) (np k : Nat) (h : AH) : Option SR := match st with
  | .inl x :: st => bif nlo lo k && Nat.blt k lo.length then sNx np (lo.set k (vI x)) st h else none
  | _ => none
def stA (lo : List AV) (st : List AV) (np k : Nat) (h : AH) : Option SR := match st with
  | .inr (.inr (.inl p)) :: st => bif nlo lo k && Nat.blt k lo.length then sNx np (lo.set k (.inr (.inr (.inl p)))) st h else none
  | _ => none
def stJ (lo : List AV) (st : List AV) (np k : Nat) (h : AH) : Option SR := match st with
  | .inr (.inl x) :: st => bif nlo lo k && Nat.blt (k + 1) lo.length then sNx np ((lo.set k (vJ x)).set (k + 1) vU) st h else none
  | _ => none
def bin (f : Int32 → Int32 → Int32) (lo st : List AV) (np : Nat) (h : AH) : Option SR := match st with
  | .inl y :: .inl x :: st => sNx np lo (vI (f x y) :: st) h
  | _ => none
def binJ (f : Int64 → Int64 → Int64) (lo st : List AV) (np : Nat) (h : AH) : Option SR := match st with
  | .inr (.inl y) :: .inr (.inl x) :: st => sNx np lo (vJ (f x y) :: st) h
  | _ => none
def binD (f : Int32 → Int32 → Int32) (lo st : List AV) (np : Nat) (h : AH) : Option SR := match st with
  | .inl y :: .inl x :: st => if y = 0 then none else sNx np lo (vI (f x y) :: st) h
  | _ => none
def br1 (c : Int32 → Bool) (lo st : List AV) (np tg : Nat) (h : AH) : Option SR := match st with
  | .inl x :: st => bif c x then sNx tg lo st h else sNx np lo st h
  | _ => none
def br2 (c : Int32 → Int32 → Bool) (lo st : List AV) (np tg : Nat) (h : AH) : Option SR := match st with
  | .inl y :: .inl x :: st => bif c x y then sNx tg lo st h else sNx np lo st h
  | _ => none
def inb (j : Int32) (n : Nat) : Bool := !(decide (j < 0)) && Nat.blt j.toNatClampNeg n
/-- the script is read, no more: L ints -/
abbrev SC : Type := Nat × (Nat → Int32)
def aldI (sc : SC) (t : Nat → Bool) (lo st : List AV) (np : Nat) (h : AH) : Option SR := match st with
  | .inl j :: .inr (.inr (.inl (i, c))) :: st =>
    bif Nat.beq c 901 then (bif t 0 && inb j sc.1 then sNx np lo (vI (sc.2 j.toNatClampNeg) :: st) h else none) else match isA c with
    | some (q, n) => bif t q && inb j n then sNx np lo (vI (hG h i c j.toNatClampNeg) :: st) h else none
    | none => none
  | _ => none
def narT (q : Nat) (x : Int32) : Int32 := match q with
  | 1 => x.toInt8.toInt32
  | 2 => x &&& 1
  | _ => x
def astI (t : Nat → Bool) (lo st : List AV) (np : Nat) (h : AH) : Option SR := match st with
  | .inl x :: .inl j :: .inr (.inr (.inl (i, c))) :: st => match isA c with
    | some (q, n) => bif t q && inb j n then sNx np lo st (sG h i c j.toNatClampNeg (narT q x)) else none
    | none => none
  | _ => none
def aty : ArrayType → Nat
  | .int => 0
  | .byte => 1
  | .boolean => 2
  | .long => 3
  | _ => 9
/-- the throw of a new exception with a text: its five instructions -/
def thrP (cx : Nat) (K : List (Nat × Instr × Nat)) (pc e : Nat) : Bool := match fnd K (pc + 3), fnd K (pc + 4) with
  | some (.dup, _), some (.ldc _, _) => match fnd K (pc + 6), fnd K (pc + 9) with
    | some (.invokespecial ic, _), some (.athrow, _) => match fnd (mTL.getD cx []) ic with
      | some (q, _, _) => Nat.beq q (600 + e)
      | none => false
    | _, _ => false
  | some (.dup, _), some (.ldc_w _, _) => match fnd K (pc + 7), fnd K (pc + 10) with
    | some (.invokespecial ic, _), some (.athrow, _) => match fnd (mTL.getD cx []) ic with
      | some (q, _, _) => Nat.beq q (600 + e)
      | none => false
    | _, _ => false
  | _, _ => false
def ivk (kd : Nat) (m : Nat) (lo st : List AV) (np : Nat) (h : AH) : Option SR :=
  bif Nat.blt m 252 && Nat.beq (mkd m) kd then
    bif Nat.beq kd 1 then bif Nat.ble (mna m) st.length && Nat.ble (cats (st.drop (mna m))) 8 then some (.inr (.inr (.inl (m, (st.take (mna m)).reverse, st.drop (mna m))))) else none
    else match st.drop (mna m) with
      | .inr (.inr (.inl (i, c))) :: rest => bif isO c (mcx m) && Nat.ble (cats rest) 8 then some (.inr (.inr (.inl (m, vR i c :: (st.take (mna m)).reverse, rest)))) else none
      | _ => none
  else none
def stp (sc : SC) (y : Nat) (K : List (Nat × Instr × Nat)) (i : Instr) (np pc : Nat) (lo st : List AV) (h : AH) : Option SR :=
  match i with
  | .iconst n => sNx np lo (vI (Int32.ofInt n) :: st) h
  | .bipush n => sNx np lo (vI (Int8.ofInt n).toInt32 :: st) h
  | .sipush n => sNx np lo (vI (Int16.ofInt n).toInt32 :: st) h
  | .lconst n => sNx np lo (vJ (Int64.ofNat (n : Nat)) :: st) h
  | .ldc k => match fnd (sTL.getD (mcx y) []) k with
    | some s => sNx np lo (vR s 900 :: st) h
    | none => none
  | .ldc_w k => match fnd (sTL.getD (mcx y) []) k with
    | some s => sNx np lo (vR s 900 :: st) h
    | none => none
  | .ldc2_w k => match fnd (lTL.getD (mcx y) []) k with
    | some (v, _) => sNx np lo (vJ v :: st) h
    | none => none
  | .iload k => ldI lo st np k h
  | .iload_n k => ldI lo st np k.val h
  | .lload k => ldJ lo st np k h
  | .lload_n k => ldJ lo st np k.val h
  | .aload k => ldA lo st np k h
  | .aload_n k => ldA lo st np k.val h
  | .istore k => stI lo st np k h
  | .istore_n k => stI lo st np k.val h
  | .lstore k => stJ lo st np k h
  | .lstore_n k => stJ lo st np k.val h
  | .astore k => stA lo st np k h
  | .astore_n k => stA lo st np k.val h
  | .iinc k n => match lo[k]? with
    | some (.inl x) => bif nlo lo k then sNx np (lo.set k (vI (x + Int32.ofInt n))) st h else none
    | _ => none
  | .iadd => bin (· + ·) lo st np h
  | .isub => bin (· - ·) lo st np h
  | .imul => bin (· * ·) lo st np h
  | .iand => bin (· &&& ·) lo st np h
  | .ior => bin (· ||| ·) lo st np h
  | .ishl => bin (fun x y => x <<< (y &&& 31)) lo st np h
  | .ishr => bin (fun x y => x >>> (y &&& 31)) lo st np h
  | .idiv => binD (· / ·) lo st np h
  | .irem => binD (fun x y => x - x / y * y) lo st np h
  | .ladd => binJ (· + ·) lo st np h
  | .lmul => binJ (· * ·) lo st np h
  | .lcmp => match st with
    | .inr (.inl y) :: .inr (.inl x) :: st => sNx np lo (vI (lg_cmp x y) :: st) h
    | _ => none
  | .i2l => match st with
    | .inl x :: st => sNx np lo (vJ x.toInt64 :: st) h
    | _ => none
  | .i2b => match st with
    | .inl x :: st => sNx np lo (vI x.toInt8.toInt32 :: st) h
    | _ => none
  | .dup => match st with
    | .inl x :: st => sNx np lo (vI x :: vI x :: st) h
    | .inr (.inr (.inl p)) :: st => sNx np lo (.inr (.inr (.inl p)) :: .inr (.inr (.inl p)) :: st) h
    | _ => none
  | .dup2 => match st with
    | .inl x :: .inr (.inr (.inl p)) :: st => sNx np lo (vI x :: .inr (.inr (.inl p)) :: vI x :: .inr (.inr (.inl p)) :: st) h
    | _ => none
  | .pop => match st with
    | .inl _ :: st => sNx np lo st h
    | .inr (.inr (.inl _)) :: st => sNx np lo st h
    | _ => none
  | .ifCond .eq t => br1 (fun x => decide (x = 0)) lo st np t.toNat h
  | .ifCond .ne t => br1 (fun x => !decide (x = 0)) lo st np t.toNat h
  | .ifCond .lt t => br1 (fun x => decide (x < 0)) lo st np t.toNat h
  | .ifCond .ge t => br1 (fun x => decide (0 ≤ x)) lo st np t.toNat h
  | .ifCond .gt t => br1 (fun x => decide (0 < x)) lo st np t.toNat h
  | .ifCond .le t => br1 (fun x => decide (x ≤ 0)) lo st np t.toNat h
  | .if_icmp .eq t => br2 (fun x y => decide (x = y)) lo st np t.toNat h
  | .if_icmp .ne t => br2 (fun x y => !decide (x = y)) lo st np t.toNat h
  | .if_icmp .lt t => br2 (fun x y => decide (x < y)) lo st np t.toNat h
  | .if_icmp .ge t => br2 (fun x y => decide (y ≤ x)) lo st np t.toNat h
  | .if_icmp .gt t => br2 (fun x y => decide (y < x)) lo st np t.toNat h
  | .if_icmp .le t => br2 (fun x y => decide (x ≤ y)) lo st np t.toNat h
  | .goto t => sNx t.toNat lo st h
  | .ifnull _ => match st with
    | .inr (.inr (.inl _)) :: st => sNx np lo st h
    | _ => none
  | .tableswitch d a b os => match st with
    | .inl x :: st => if x.toInt < a ∨ b < x.toInt then sNx d.toNat lo st h else match os[(x.toInt - a).toNat]? with
      | some t => sNx t.toNat lo st h
      | none => none
    | _ => none
  | .getfield k => match fnd (fTL.getD (mcx y) []) k, st with
    | some (ci, f, ty, _), .inr (.inr (.inl (i, c))) :: st => bif isO c ci then (match ty with
        | 0 => sNx np lo (vI (hG h i c f) :: st) h
        | 1 => sNx np lo (vJ (hQ h i c f) :: st) h
        | _ => match hR h i c f with
          | some p => sNx np lo (.inr (.inr (.inl p)) :: st) h
          | none => none) else none
    | _, _ => none
  | .putfield k => match fnd (fTL.getD (mcx y) []) k, st with
    | some (ci, f, ty, _), v :: .inr (.inr (.inl (i, c))) :: st => bif isO c ci && (!((cls9.getD ci ("", jT0, 0)).2.1 f).2.2.2 || (Nat.beq (mkd y) 2 && Nat.beq ci (mcx y))) then (match ty, v with
        | 0, .inl x => sNx np lo st (sG h i c f x)
        | 1, .inr (.inl x) => sNx np lo st (sQ h i c f x)
        | 2, .inr (.inr (.inl p)) => bif Nat.blt p.2 900 then sNx np lo st (sR h i c f p) else none
        | _, _ => none) else none
    | _, _ => none
  | .iaload => aldI sc (fun q => Nat.beq q 0) lo st np h
  | .baload => aldI sc (fun q => Nat.beq q 1 || Nat.beq q 2) lo st np h
  | .iastore => astI (fun q => Nat.beq q 0) lo st np h
  | .bastore => astI (fun q => Nat.beq q 1 || Nat.beq q 2) lo st np h
  | .laload => match st with
    | .inl j :: .inr (.inr (.inl (i, c))) :: st => match isA c with
      | some (q, n) => bif Nat.beq q 3 && inb j n then sNx np lo (vJ (hQ h i c j.toNatClampNeg) :: st) h else none
      | none => none
    | _ => none
  | .lastore => match st with
    | .inr (.inl x) :: .inl j :: .inr (.inr (.inl (i, c))) :: st => match isA c with
      | some (q, n) => bif Nat.beq q 3 && inb j n then sNx np lo st (sQ h i c j.toNatClampNeg x) else none
      | none => none
    | _ => none
  | .aaload => match st with
    | .inl j :: .inr (.inr (.inl (i, c))) :: st => match isA c with
      | some (q, n) => bif Nat.beq q 4 && inb j n then (match hR h i c j.toNatClampNeg with
        | some p => sNx np lo (.inr (.inr (.inl p)) :: st) h
        | none => none) else none
      | none => none
    | _ => none
  | .aastore => match st with
    | .inr (.inr (.inl p)) :: .inl j :: .inr (.inr (.inl (i, c))) :: st => match isA c with
      | some (q, n) => bif Nat.beq q 4 && inb j n && isO p.2 3 then sNx np lo st (sR h i c j.toNatClampNeg p) else none
      | none => none
    | _ => none
  | .arraylength => match st with
    | .inr (.inr (.inl (_, c))) :: st => bif Nat.beq c 901 then sNx np lo (vI (Int32.ofNat sc.1) :: st) h else match isA c with
      | some (_, n) => sNx np lo (vI (Int32.ofNat n) :: st) h
      | none => none
    | _ => none
  | .newarray t => match st with
    | .inl n :: st => match isA (nm h.1.1).2 with
      | some (q, k) => bif Nat.beq q (aty t) && Nat.blt q 4 && !(decide (n < 0)) && Nat.beq n.toNatClampNeg k && Nat.blt h.1.1 nmN then sNx np lo (.inr (.inr (.inl (nm h.1.1))) :: st) (alc h k) else none
      | none => none
    | _ => none
  | .anewarray _ => match st with
    | .inl n :: st => match isA (nm h.1.1).2 with
      | some (q, k) => bif Nat.beq q 4 && Nat.beq (mcx y) 4 && !(decide (n < 0)) && Nat.beq n.toNatClampNeg k && Nat.blt h.1.1 nmN then sNx np lo (.inr (.inr (.inl (nm h.1.1))) :: st) (alc h k) else none
      | none => none
    | _ => none
  | .new k => match fnd (cTL.getD (mcx y) []) k with
    | some (0, ci, _, _, _) => bif isO (nm h.1.1).2 ci && Nat.blt h.1.1 nmN then sNx np lo (.inr (.inr (.inl (nm h.1.1))) :: st) (alc h (fcn ci)) else none
    | some (_, e, _, _, _) => bif thrP (mcx y) K pc e && Nat.ble (cats st) 8 then some (.inr (.inr (.inr e))) else none
    | none => none
  | .invokespecial k => match fnd (mTL.getD (mcx y) []) k with
    | some (m, _, _) => bif Nat.beq m 500 then (match st with
        | .inr (.inr (.inl _)) :: st => bif Nat.ble (cats st) 8 then sNx np lo st h else none
        | _ => none) else ivk 2 m lo st np h
    | none => none
  | .invokestatic k => match fnd (mTL.getD (mcx y) []) k with
    | some (m, _, _) => bif Nat.beq m 503 then (match st with
        | .inl y :: .inl x :: st => bif Nat.ble (cats st) 8 then sNx np lo (vI (if x < y then y else x) :: st) h else none
        | _ => none)
      else bif Nat.beq m 504 then (match st with
        | .inl y :: .inl x :: st => bif Nat.ble (cats st) 8 then sNx np lo (vI (if y < x then y else x) :: st) h else none
        | _ => none)
      else bif Nat.beq m 505 then (match st with
        | .inl n :: .inl dp :: .inr (.inr (.inl (i, c))) :: .inl sp :: .inr (.inr (.inl (j, d))) :: st => match isA d, isA c with
          | some (0, n0), some (0, n1) => bif Nat.ble (cats st) 8 && !(decide (sp < 0)) && !(decide (dp < 0)) && !(decide (n < 0)) && Nat.ble (sp.toNatClampNeg + n.toNatClampNeg) n0 && Nat.ble (dp.toNatClampNeg + n.toNatClampNeg) n1 then
              sNx np lo st (sW h i c (va_cpy (hG h j d) (hG h i c) sp.toNatClampNeg dp.toNatClampNeg n.toNatClampNeg)) else none
          | _, _ => none
        | _ => none)
      else ivk 1 m lo st np h
    | none => none
  | .invokevirtual k => match fnd (mTL.getD (mcx y) []) k with
    | some (m, _, _) => bif Nat.beq m 501 then (match st with
        | .inr (.inr (.inl (i, c))) :: st => bif Nat.beq c 900 && Nat.blt i strN && Nat.ble (cats st) 8 then sNx np lo (vI (Int32.ofNat (txt i).length) :: st) h else none
        | _ => none)
      else bif Nat.beq m 502 then (match st with
        | .inl j :: .inr (.inr (.inl (i, c))) :: st => bif Nat.beq c 900 && Nat.blt i strN && inb j (txt i).length && Nat.ble (cats st) 8 then sNx np lo (vI ((txt i).getD j.toNatClampNeg 0) :: st) h else none
        | _ => none)
      else ivk 0 m lo st np h
    | none => none
  | .ireturn => match st with
    | [.inl x] => match mRt.getD y none with
      | some .int => some (.inr (.inl (some (vI x))))
      | some .boolean => if x = 0 ∨ x = 1 then some (.inr (.inl (some (vI x)))) else none
      | _ => none
    | _ => none
  | .lreturn => match st with
    | [.inr (.inl x)] => match mRt.getD y none with
      | some .long => some (.inr (.inl (some (vJ x))))
      | _ => none
    | _ => none
  | .return_ => match st with
    | [] => match mRt.getD y none with
      | none => some (.inr (.inl none))
      | _ => none
    | _ => none
  | _ => none
/-- what a method's end is: an answer (none of a void one), or a thrown exception's number -/
abbrev RS : Type := (Option AV) ⊕ Nat
def hnd (y e pc : Nat) : Option Nat := (hndL.find? (fun q => Nat.beq q.1 y && Nat.beq q.2.1 e && Nat.ble q.2.2.1 pc && Nat.blt pc q.2.2.2.1)).map (fun q => q.2.2.2.2.1)
/-- a handler begins with the storing of its exception, which is not read again -/
def hnIn (K : List (Nat × Instr × Nat)) (lo : List AV) (hp : Nat) : Option (Nat × List AV) := match fnd K hp with
  | some (.astore k, np) => bif nlo lo k && Nat.blt k lo.length then some (np, lo.set k vU) else none
  | some (.astore_n k, np) => bif nlo lo k.val && Nat.blt k.val lo.length then some (np, lo.set k.val vU) else none
  | _ => none
def exN (sc : SC) (call : Nat → List AV → AH → Option (RS × AH)) (y : Nat) (K : List (Nat × Instr × Nat)) : Nat → Nat → List AV → List AV → AH → Option (RS × AH)
  | 0, _, _, _, _ => none
  | n + 1, pc, lo, st, h => match fnd K pc with
    | none => none
    | some (i, np) => match stp sc y K i np pc lo st h with
      | none => none
      | some (.inl (pc', lo', st', h')) => exN sc call y K n pc' lo' st' h'
      | some (.inr (.inl v)) => some (.inl v, h)
      | some (.inr (.inr (.inl (m, as, rest)))) => match call m as h with
        | none => none
        | some (.inl v, h') => exN sc call y K n np lo (v.toList ++ rest) h'
        | some (.inr e, h') => match hnd y e pc with
          | none => some (.inr e, h')
          | some hp => match hnIn K lo hp with
            | some (np', lo') => exN sc call y K n np' lo' [] h'
            | none => none
      | some (.inr (.inr (.inr e))) => some (.inr e, bump h)
/-- the locals at a method's begin -/
def elo : List AV → List AV
  | [] => []
  | .inr (.inl x) :: r => .inr (.inl x) :: vU :: elo r
  | v :: r => v :: elo r
def lo0 (as : List AV) (n : Nat) : List AV := elo as ++ List.replicate (n - (elo as).length) vU
def runM (sc : SC) (N : Nat) : Nat → Nat → List AV → AH → Option (RS × AH)
  | 0, _, _, _ => none
  | d + 1, y, as, h => bif Nat.ble (elo as).length (mmx y) then exN sc (runM sc N d) y (code9 y) N 0 (lo0 as (mmx y)) [] h else none
end
section
/-! THE PICTURE: what the small machine's heap says of the machine's -/
def ilen : Instr → Nat
  | .bipush _ | .iload _ | .lload _ | .aload _ | .istore _ | .lstore _ | .astore _ | .newarray _ | .ldc _ => 2
  | .sipush _ | .iinc _ _ | .ldc_w _ | .ldc2_w _ | .ifCond _ _ | .if_icmp _ _ | .goto _ | .ifnull _ | .getfield _ | .putfield _ | .new _ | .anewarray _ | .invokevirtual _ | .invokespecial _ | .invokestatic _ => 3
  | _ => 1
def isTsw : Instr → Bool
  | .tableswitch _ _ _ _ => true
  | _ => false
theorem len_all : (List.range 252).all (fun y => (code9 y).all (fun e => isTsw e.2.1 || Nat.beq e.2.2 (e.1 + ilen e.2.1))) = true := by decide +kernel
theorem fnd_mem {α : Type} {K : List (Nat × α)} {n : Nat} {v : α} (h : fnd K n = some v) : (n, v) ∈ K := by
  induction K with
  | nil => cases h
  | cons e r ih =>
    obtain ⟨k, w⟩ := e
    simp only [fnd] at h
    cases hk : Nat.beq k n with
    | true =>
      rw [hk] at h
      simp only [cond_true, Option.some.injEq] at h
      rw [Nat.eq_of_beq_eq_true hk, h]
      exact List.mem_cons_self
    | false =>
      rw [hk] at h
      exact List.mem_cons_of_mem _ (ih h)
/-- an entry of a method's code, by its bytes -/
theorem code_at {y pc : Nat} {i : Instr} {np : Nat} (hy : y < 252) (h : fnd (code9 y) pc = some (i, np)) : ∃ i0 len, decode (mByt y) pc = .ok (i0, len) ∧ absI pc i0 = i ∧ np = pc + len ∧ (isTsw i = false → len = ilen i) := by
  have hm := fnd_mem h
  have h1 := List.all_eq_true.mp (kc_all y hy) _ hm
  have h2 := List.all_eq_true.mp (List.all_eq_true.mp len_all y (List.mem_range.mpr hy)) _ hm
  unfold kChk1 at h1
  dsimp only at h1 h2
  split at h1
  · rename_i i0 len hd
    simp only [Bool.and_eq_true, decide_eq_true_eq] at h1
    have e1 := Nat.eq_of_beq_eq_true h1.2
    refine ⟨i0, len, hd, h1.1, e1, fun ht => ?_⟩
    rw [ht] at h2
    have e2 := Nat.eq_of_beq_eq_true h2
    omega
  · cases h1
def tys9 (tc : Nat → ClassId) : List (ClassId × FieldType) := [(tc 0, .int), (tc 1, .byte), (tc 2, .boolean), (tc 3, .long), (tc 4, .object "MountSpaces$Mounts")]
abbrev AD : Type := Nat → Nat → Nat
def avV (L : AD) : AV → Value
  | .inl x => .int x
  | .inr (.inl x) => .long x
  | .inr (.inr (.inl p)) => .ref (L p.1 p.2)
  | .inr (.inr (.inr _)) => .null
def fV (L : AD) (h : AH) (i c ci k : Nat) : Value := match ftc ci k with
  | 0 => .int (hG h i c k)
  | 1 => .long (hQ h i c k)
  | _ => va_rf ((hR h i c k).map fun p => L p.1 p.2)
def arV (L : AD) (h : AH) (i c q n : Nat) : vp_A := (n, match q with
  | 3 => .inr (.inl (hQ h i c))
  | 4 => .inr (.inr (.inr (.inr (fun j => (hR h i c j).map fun p => L p.1 p.2))))
  | _ => .inl (hG h i c))
def celE (tc : Nat → ClassId) (L : AD) (h : AH) (i c : Nat) : va_E := match KD c with
  | .inl ci => .inr (ci, (List.range (fcn ci)).map (fV L h i c ci))
  | .inr (q, n) => .inl (tc q, arV L h i c q n)
def wsE (tc : Nat → ClassId) (L : AD) (h : AH) : va_W := (List.range h.1.1).map fun n => (L (nm n).1 (nm n).2, celE tc L h (nm n).1 (nm n).2)
def okP (n : Nat) (p : Nat × Nat) : Prop := ∃ j, j < n ∧ nm j = p
def okA (n : Nat) (p : Nat × Nat) : Prop := okP n p ∨ (p.2 = 900 ∧ p.1 < strN) ∨ p = (0, 901)
def okV (n : Nat) : AV → Prop
  | .inr (.inr (.inl p)) => okA n p
  | _ => True
theorem okP.mono {n k : Nat} {p : Nat × Nat} (h : okP n p) (hk : n ≤ k) : okP k p := by
  obtain ⟨j, h1, h2⟩ := h
  exact ⟨j, Nat.lt_of_lt_of_le h1 hk, h2⟩
theorem okA.mono {n k : Nat} {p : Nat × Nat} (h : okA n p) (hk : n ≤ k) : okA k p := h.elim (fun h => Or.inl (h.mono hk)) Or.inr
theorem okV.mono {n k : Nat} {v : AV} (h : okV n v) (hk : n ≤ k) : okV k v := by
  match v, h with
  | .inl _, _ => trivial
  | .inr (.inl _), _ => trivial
  | .inr (.inr (.inl p)), h => exact okA.mono h hk
  | .inr (.inr (.inr _)), _ => trivial
/-- the order of making: each name once, all below 900 -/
def nmI (p : Nat × Nat) : Nat := nmL.findIdx (fun q => Nat.beq q.1 p.1 && Nat.beq q.2 p.2)
theorem nm_inv : (List.range 216).all (fun n => Nat.beq (nmI (nm n)) n && Nat.blt (nm n).2 91) = true := by decide +kernel
theorem nm_inj {a b : Nat} (ha : a < 216) (hb : b < 216) (h : nm a = nm b) : a = b := by
  have h1 := List.all_eq_true.mp nm_inv a (List.mem_range.mpr ha)
  have h2 := List.all_eq_true.mp nm_inv b (List.mem_range.mpr hb)
  simp only [Bool.and_eq_true] at h1 h2
  have e1 := Nat.eq_of_beq_eq_true h1.1
  have e2 := Nat.eq_of_beq_eq_true h2.1
  rw [← e1, ← e2, h]
theorem nm_lt {a : Nat} (ha : a < 216) : (nm a).2 < 91 := by
  have h1 := List.all_eq_true.mp nm_inv a (List.mem_range.mpr ha)
  simp only [Bool.and_eq_true] at h1
  exact Nat.le_of_ble_eq_true h1.2
theorem KD_lt {c ci : Nat} (h : isO c ci = true) (hci : ci < 99) : c < 91 := by
  apply Nat.lt_of_not_le
  intro hc
  have : KD c = .inl 99 := by
    unfold KD
    rw [List.getD_eq_getElem?_getD, List.getElem?_eq_none (by rw [show KDL.length = 91 from by decide +kernel]; exact hc)]; rfl
  unfold isO at h
  rw [this] at h
  have := Nat.eq_of_beq_eq_true h
  omega
theorem KDA_lt {c : Nat} {x : Nat × Nat} (h : isA c = some x) : c < 91 := by
  apply Nat.lt_of_not_le
  intro hc
  have : KD c = .inl 99 := by
    unfold KD
    rw [List.getD_eq_getElem?_getD, List.getElem?_eq_none (by rw [show KDL.length = 91 from by decide +kernel]; exact hc)]; rfl
  unfold isA at h
  rw [this] at h
  cases h
theorem okA.P {n : Nat} {p : Nat × Nat} (h : okA n p) (hc : p.2 < 91) : okP n p := by
  rcases h with h | ⟨h, -⟩ | h
  · exact h
  · omega
  · rw [h] at hc
    exact absurd hc (by decide)
theorem okP.lt {n : Nat} {p : Nat × Nat} (h : okP n p) (hn : n ≤ 216) : p.2 < 91 := by
  obtain ⟨j, h1, h2⟩ := h
  rw [← h2]
  exact nm_lt (by omega)
theorem isO_KD {c ci : Nat} (h : isO c ci = true) : KD c = .inl ci := by
  unfold isO at h
  split at h
  · rename_i x hx
    rw [hx, Nat.eq_of_beq_eq_true h]
  · cases h
theorem isA_KD {c : Nat} {q : Nat × Nat} (h : isA c = some q) : KD c = .inr q := by
  unfold isA at h
  split at h
  · cases h
  · rename_i x hx
    rw [hx, Option.some.inj h]
theorem ws_at {tc : Nat → ClassId} {L : AD} {h : AH} {j : Nat} (hj : j < h.1.1) : (wsE tc L h)[j]? = some (L (nm j).1 (nm j).2, celE tc L h (nm j).1 (nm j).2) := by
  simp [wsE, hj]
theorem ws_len {tc : Nat → ClassId} {L : AD} {h : AH} : (wsE tc L h).length = h.1.1 := by simp [wsE]
/-- one cell changes -/
theorem ws_set {tc : Nat → ClassId} {L : AD} {h h' : AH} {j : Nat} {e : va_E} (hj : j < h.1.1) (hn : h.1.1 ≤ 216) (h1 : h'.1.1 = h.1.1) (he : celE tc L h' (nm j).1 (nm j).2 = e)
    (ho : ∀ i c, (i, c) ≠ nm j → celE tc L h' i c = celE tc L h i c) : (wsE tc L h).set j (L (nm j).1 (nm j).2, e) = wsE tc L h' := by
  apply List.ext_getElem?
  intro k
  rw [List.getElem?_set, ws_len]
  by_cases hk : j = k
  · subst hk
    rw [if_pos rfl, if_pos hj, ws_at (by rw [h1]; exact hj), he]
  · rw [if_neg hk]
    by_cases hkn : k < h.1.1
    · rw [ws_at hkn, ws_at (by rw [h1]; exact hkn), ho]
      intro q
      exact hk (nm_inj (by omega) (by omega) q.symm)
    · rw [List.getElem?_eq_none (by rw [ws_len]; omega), List.getElem?_eq_none (by rw [ws_len]; omega)]
/-- a new cell -/
theorem ws_push {tc : Nat → ClassId} {L : AD} {h h' : AH} {L' : AD} {e : va_E} {a : Nat} (h1 : h'.1.1 = h.1.1 + 1) (ha : L' (nm h.1.1).1 (nm h.1.1).2 = a) (he : celE tc L' h' (nm h.1.1).1 (nm h.1.1).2 = e)
    (hl : ∀ n, n < h.1.1 → L' (nm n).1 (nm n).2 = L (nm n).1 (nm n).2) (ho : ∀ n, n < h.1.1 → celE tc L' h' (nm n).1 (nm n).2 = celE tc L h (nm n).1 (nm n).2) : wsE tc L h ++ [(a, e)] = wsE tc L' h' := by
  apply List.ext_getElem?
  intro k
  rcases Nat.lt_trichotomy k h.1.1 with hk | hk | hk
  · rw [List.getElem?_append_left (by rw [ws_len]; exact hk), ws_at hk, ws_at (by omega), hl k hk, ho k hk]
  · subst hk
    rw [List.getElem?_append_right (by rw [ws_len]; exact Nat.le_refl _), ws_at (by omega), ha, he, ws_len]
    simp
  · rw [List.getElem?_eq_none (by rw [List.length_append, ws_len]; simp; omega), List.getElem?_eq_none (by rw [ws_len]; omega)]
def RL (base : Nat) (D : va_G) (tc : Nat → ClassId) (adK : Nat → Nat) (b0 : Nat) (L : AD) (h : AH) (H : Heap) : Prop :=
  va_P D cls9 (wsE tc L h) H ∧ va_D (fun q => base ≤ q) (wsE tc L h) ∧ h.1.1 ≤ 216 ∧ (∀ j, j < h.1.1 → ∀ k p, hR h (nm j).1 (nm j).2 k = some p → okP h.1.1 p) ∧ (∀ i, i < strN → L i 900 = adK i) ∧ L 0 901 = b0
/-- the locals that are known -/
def rlo (L : AD) : Nat → List AV → List (Nat × Value)
  | _, [] => []
  | n, .inr (.inr (.inr _)) :: r => rlo L (n + 1) r
  | n, v :: r => (n, avV L v) :: rlo L (n + 1) r
theorem rlo_mem {L : AD} {lo : List AV} {n k : Nat} {w : Value} : (k, w) ∈ rlo L n lo ↔ ∃ (j : Nat) (v : AV), k = n + j ∧ lo[j]? = some v ∧ v ≠ vU ∧ w = avV L v := by
  induction lo generalizing n with
  | nil => simp [rlo]
  | cons x r ih =>
    have tail : (k, w) ∈ rlo L (n + 1) r ↔ ∃ (j : Nat) (v : AV), k = n + (j + 1) ∧ (x :: r)[j + 1]? = some v ∧ v ≠ vU ∧ w = avV L v := by
      rw [ih]
      constructor
      · rintro ⟨j, v, h1, h2, h3, h4⟩
        exact ⟨j, v, by omega, by simpa using h2, h3, h4⟩
      · rintro ⟨j, v, h1, h2, h3, h4⟩
        exact ⟨j, v, by omega, by simpa using h2, h3, h4⟩
    have key : (x = vU ∧ rlo L n (x :: r) = rlo L (n + 1) r) ∨ (x ≠ vU ∧ rlo L n (x :: r) = (n, avV L x) :: rlo L (n + 1) r) := by
      match x with
      | .inl a => exact Or.inr ⟨(by intro q; cases q), rfl⟩
      | .inr (.inl a) => exact Or.inr ⟨(by intro q; cases q), rfl⟩
      | .inr (.inr (.inl a)) => exact Or.inr ⟨(by intro q; cases q), rfl⟩
      | .inr (.inr (.inr ())) => exact Or.inl ⟨rfl, rfl⟩
    rcases key with ⟨hx, e⟩ | ⟨hx, e⟩
    · rw [e, tail]
      constructor
      · rintro ⟨j, v, h1, h2, h3, h4⟩
        exact ⟨j + 1, v, h1, h2, h3, h4⟩
      · rintro ⟨j, v, h1, h2, h3, h4⟩
        cases j with
        | zero => simp at h2; exact absurd (h2 ▸ hx) h3
        | succ j => exact ⟨j, v, h1, h2, h3, h4⟩
    · rw [e, List.mem_cons, tail]
      constructor
      · rintro (h | ⟨j, v, h1, h2, h3, h4⟩)
        · obtain ⟨h1, h2⟩ := Prod.mk.inj h
          exact ⟨0, x, by omega, by simp, hx, h2⟩
        · exact ⟨j + 1, v, h1, h2, h3, h4⟩
      · rintro ⟨j, v, h1, h2, h3, h4⟩
        cases j with
        | zero =>
          simp at h2
          subst h2
          exact Or.inl (by rw [h1, h4]; rfl)
        | succ j => exact Or.inr ⟨j, v, h1, h2, h3, h4⟩
theorem lv_mono {ls : Array Slot} {nL : Nat} {l l' : List (Nat × Value)} (h : lv_has ls nL l) (hm : ∀ q ∈ l', q ∈ l) : lv_has ls nL l' := ⟨h.1, h.2.1, fun q hq => h.2.2 q (hm q hq)⟩
theorem avV_congr {L L' : AD} {n : Nat} {v : AV} (h : ∀ p, okA n p → L' p.1 p.2 = L p.1 p.2) (hv : okV n v) : avV L' v = avV L v := by
  match v, hv with
  | .inl _, _ => rfl
  | .inr (.inl _), _ => rfl
  | .inr (.inr (.inl p)), hv => exact congrArg Value.ref (h p hv)
  | .inr (.inr (.inr _)), _ => rfl
theorem map_congr9 {L L' : AD} {n : Nat} {st : List AV} (h : ∀ p, okA n p → L' p.1 p.2 = L p.1 p.2) (hv : ∀ v ∈ st, okV n v) : st.map (avV L') = st.map (avV L) := List.map_congr_left fun v hm => avV_congr h (hv v hm)
theorem rlo_congr {L L' : AD} {n : Nat} {lo : List AV} (h : ∀ p, okA n p → L' p.1 p.2 = L p.1 p.2) (hv : ∀ v ∈ lo, okV n v) : ∀ q ∈ rlo L' 0 lo, q ∈ rlo L 0 lo := by
  intro q hq
  obtain ⟨k, w⟩ := q
  obtain ⟨j, v, h1, h2, h3, h4⟩ := rlo_mem.mp hq
  exact rlo_mem.mpr ⟨j, v, h1, h2, h3, by rw [h4, avV_congr h (hv v (List.mem_of_getElem? h2))]⟩
theorem cats_map (L : AD) (st : List AV) (h : ∀ v ∈ st, v ≠ vU ∨ True) : ((st.map (avV L)).map fun v => v.category).sum = cats st := by
  induction st with
  | nil => rfl
  | cons v r ih =>
    have := ih (fun _ _ => Or.inr trivial)
    simp only [List.map_cons, List.sum_cons, cats, this]
    congr 1
    match v with
    | .inl _ => rfl
    | .inr (.inl _) => rfl
    | .inr (.inr (.inl _)) => rfl
    | .inr (.inr (.inr _)) => rfl
end
section
/-! ONE STEP of the small machine is a step of the machine -/
def FX (p : Program) (R : Room) (s : State) (m : MethodId) (meth : Method) (c : Code) (y : Nat) : Prop :=
  p.tables.exec = Jvm.exec ∧ c.code = mByt y ∧ c.maxLocals = mmx y ∧ s.vm.findClass (cnm (mcx y)) = some m.cls ∧ meth.sig.returnType = mRet y ∧ meth.locks = false ∧ (mkd y = 2 → meth.name = "<init>") ∧ y < 252 ∧ 8 ≤ R.frames ∧ 200 ≤ R.locals
/-- what stands in s of the words: the tables', and those that only warming keeps -/
def WD (s : State) (args : Array Value) (D : va_G) (tc : Nat → ClassId) : Prop := (∀ w ∈ lw_tbl, goodWord w = true → w.before args s = true) ∧ va_K D cls9 (tys9 tc) s
theorem WD.w {s : State} {args : Array Value} {D : va_G} {tc : Nat → ClassId} (h : WD s args D tc) {w : Cond} (hm : w ∈ lw_tbl) (hg : goodWord w = true := by rfl) : w.before args s = true := h.1 w hm hg
def GO (p : Program) (l : Launch) (e : Env) (R : Room) (s : State) (m : MethodId) (args : Array Value) (below : List Frame) (meth : Method) (c : Code) (base : Nat) (D : va_G) (tc : Nat → ClassId) (adK : Nat → Nat) (b0 : Nat) (y : Nat) (L0 : AD) (n0 c0 k0 : Nat) (Q : State → Prop) (pc : Nat) (lo st : List AV) (h : AH) : Prop :=
  ∀ (L : AD) (H : Heap) (locs : List Loc) (cells slots : Nat) (ls : Array Slot), RL base D tc adK b0 L h H → va_S (fun q => base ≤ q) s.heap H locs → lv_has ls (mmx y) (rlo L 0 lo) → lo.length = mmx y → (∀ v ∈ lo, okV h.1.1 v) → (∀ v ∈ st, okV h.1.1 v) →
    cells + c0 = h.1.2.1 → slots + k0 = h.1.2.2 → (∀ q, okA n0 q → L q.1 q.2 = L0 q.1 q.2) → n0 ≤ h.1.1 → W p l e R s m args below meth c H locs cells slots Q (F0 m pc ls (st.map (avV L)))
theorem ok_cons {n : Nat} {v : AV} {st : List AV} (hv : okV n v) (h : ∀ w ∈ st, okV n w) : ∀ w ∈ v :: st, okV n w := fun w hw => (List.mem_cons.mp hw).elim (fun e => e ▸ hv) (h w)
theorem ok_tl {n : Nat} {v : AV} {st : List AV} (h : ∀ w ∈ v :: st, okV n w) : ∀ w ∈ st, okV n w := fun w hw => h w (List.mem_cons_of_mem _ hw)
theorem ok_hd {n : Nat} {v : AV} {st : List AV} (h : ∀ w ∈ v :: st, okV n w) : okV n v := h v List.mem_cons_self
theorem ok_set {n : Nat} {v : AV} {lo : List AV} {k : Nat} (hv : okV n v) (h : ∀ w ∈ lo, okV n w) : ∀ w ∈ lo.set k v, okV n w := fun w hw => (List.mem_or_eq_of_mem_set hw).elim (h w) (fun e => e ▸ hv)
theorem rlo_at {L : AD} {ls : Array Slot} {nL : Nat} {lo : List AV} (hl : lv_has ls nL (rlo L 0 lo)) {k : Nat} {v : AV} (h : lo[k]? = some v) (hv : v ≠ vU) : ls[k]? = some (.val (avV L v)) := hl.2.2 (k, avV L v) (rlo_mem.mpr ⟨k, v, by omega, h, hv, rfl⟩)
theorem rlo_set1 {L : AD} {lo : List AV} {k : Nat} {v : AV} (hn : nlo lo k = true) : ∀ q ∈ rlo L 0 (lo.set k v), q ∈ (k, avV L v) :: (rlo L 0 lo).filter (fun q => !(q.1 == k) && !(q.1 + 1 == k && q.2.category == 2)) := by
  intro q hq
  obtain ⟨j, w⟩ := q
  obtain ⟨j', x, h1, h2, h3, h4⟩ := rlo_mem.mp hq
  rw [Nat.zero_add] at h1
  subst h1
  rw [List.getElem?_set] at h2
  by_cases hj : k = j
  · subst hj
    rw [if_pos rfl] at h2
    split at h2
    · cases h2
      rw [h4]
      exact List.mem_cons_self
    · cases h2
  · rw [if_neg hj] at h2
    refine List.mem_cons_of_mem _ (List.mem_filter.mpr ⟨rlo_mem.mpr ⟨j, x, by omega, h2, h3, h4⟩, ?_⟩)
    have a : (j == k) = false := by simpa using fun e => hj e.symm
    simp only [a, Bool.not_false, Bool.true_and, Bool.not_eq_true', Bool.and_eq_false_iff]
    by_cases hk : j + 1 = k
    · right
      subst hk
      simp only [nlo, h2] at hn
      rw [h4]
      match x, hn with
      | .inl _, _ => rfl
      | .inr (.inl _), hn => cases hn
      | .inr (.inr (.inl _)), _ => rfl
      | .inr (.inr (.inr _)), _ => rfl
    · left
      simpa using hk
theorem rlo_set2 {L : AD} {lo : List AV} {k : Nat} {v : AV} (hn : nlo lo k = true) : ∀ q ∈ rlo L 0 ((lo.set k v).set (k + 1) vU), q ∈ (k, avV L v) :: (rlo L 0 lo).filter (fun q => !(q.1 == k) && (!(q.1 == k + 1) && !(q.1 + 1 == k && q.2.category == 2))) := by
  intro q hq
  obtain ⟨j, w⟩ := q
  obtain ⟨j', x, h1, h2, h3, h4⟩ := rlo_mem.mp hq
  rw [Nat.zero_add] at h1
  subst h1
  rw [List.getElem?_set] at h2
  by_cases hj1 : k + 1 = j
  · rw [if_pos hj1] at h2
    split at h2
    · cases h2
      exact absurd rfl h3
    · cases h2
  · rw [if_neg hj1] at h2
    have hm : (j, w) ∈ rlo L 0 (lo.set k v) := rlo_mem.mpr ⟨j, x, by omega, h2, h3, h4⟩
    rcases List.mem_cons.mp (rlo_set1 hn _ hm) with e | e
    · rw [e]; exact List.mem_cons_self
    · refine List.mem_cons_of_mem _ ?_
      obtain ⟨e1, e2⟩ := List.mem_filter.mp e
      refine List.mem_filter.mpr ⟨e1, ?_⟩
      have a : (j == k + 1) = false := by simpa using fun e => hj1 e.symm
      simp only [a, Bool.not_false, Bool.true_and]
      exact e2
section STEP
variable {p : Program} {l : Launch} {e : Env} {R : Room} {s : State} {m : MethodId} {args : Array Value} {below : List Frame} {meth : Method} {c : Code} {base : Nat} {D : va_G} {tc : Nat → ClassId} {adK : Nat → Nat} {b0 y : Nat} {L0 : AD} {n0 c0 k0 : Nat} {Q : State → Prop} {pc np pc' k : Nat} {lo st lo' st' : List AV} {h h' : AH}
theorem sNx_inj {pc pc' : Nat} {lo lo' st st' : List AV} {h h' : AH} (q : sNx pc lo st h = some (.inl (pc', lo', st', h'))) : pc = pc' ∧ lo = lo' ∧ st = st' ∧ h = h' := by
  simpa only [sNx, Option.some.injEq, Sum.inl.injEq, Prod.mk.injEq] using q
theorem go_push {v : AV} (hv : okV h.1.1 v) (row : ∀ {H : Heap} {locs : List Loc} {cells slots : Nat} {ls : Array Slot} {rest : List Value} {L : AD}, RL base D tc adK b0 L h H → W p l e R s m args below meth c H locs cells slots Q (F0 m np ls (avV L v :: rest)) → W p l e R s m args below meth c H locs cells slots Q (F0 m pc ls rest))
    (hst : sNx np lo (v :: st) h = some (.inl (pc', lo', st', h'))) (kk : GO p l e R s m args below meth c base D tc adK b0 y L0 n0 c0 k0 Q pc' lo' st' h') : GO p l e R s m args below meth c base D tc adK b0 y L0 n0 c0 k0 Q pc lo st h := by
  obtain ⟨rfl, rfl, rfl, rfl⟩ := sNx_inj hst
  intro L H locs cells slots ls a1 a2 a3 a4 a5 a6 a7 a8 a9 b1
  exact row a1 (kk L H locs cells slots ls a1 a2 a3 a4 a5 (ok_cons hv a6) a7 a8 a9 b1)
theorem go_ldI (row : ∀ {H : Heap} {locs : List Loc} {cells slots : Nat} {ls : Array Slot} {rest : List Value} {x : Int32}, ls[k]? = some (.val (.int x)) → W p l e R s m args below meth c H locs cells slots Q (F0 m np ls (.int x :: rest)) → W p l e R s m args below meth c H locs cells slots Q (F0 m pc ls rest))
    (hst : ldI lo st np k h = some (.inl (pc', lo', st', h'))) (kk : GO p l e R s m args below meth c base D tc adK b0 y L0 n0 c0 k0 Q pc' lo' st' h') : GO p l e R s m args below meth c base D tc adK b0 y L0 n0 c0 k0 Q pc lo st h := by
  unfold ldI at hst
  split at hst
  · rename_i x hx
    obtain ⟨rfl, rfl, rfl, rfl⟩ := sNx_inj hst
    intro L H locs cells slots ls a1 a2 a3 a4 a5 a6 a7 a8 a9 b1
    exact row (rlo_at a3 hx (by intro q; cases q)) (kk L H locs cells slots ls a1 a2 a3 a4 a5 (ok_cons trivial a6) a7 a8 a9 b1)
  · cases hst
theorem go_ldJ (row : ∀ {H : Heap} {locs : List Loc} {cells slots : Nat} {ls : Array Slot} {rest : List Value} {x : Int64}, ls[k]? = some (.val (.long x)) → W p l e R s m args below meth c H locs cells slots Q (F0 m np ls (.long x :: rest)) → W p l e R s m args below meth c H locs cells slots Q (F0 m pc ls rest))
    (hst : ldJ lo st np k h = some (.inl (pc', lo', st', h'))) (kk : GO p l e R s m args below meth c base D tc adK b0 y L0 n0 c0 k0 Q pc' lo' st' h') : GO p l e R s m args below meth c base D tc adK b0 y L0 n0 c0 k0 Q pc lo st h := by
  unfold ldJ at hst
  split at hst
  · rename_i x hx
    obtain ⟨rfl, rfl, rfl, rfl⟩ := sNx_inj hst
    intro L H locs cells slots ls a1 a2 a3 a4 a5 a6 a7 a8 a9 b1
    exact row (rlo_at a3 hx (by intro q; cases q)) (kk L H locs cells slots ls a1 a2 a3 a4 a5 (ok_cons trivial a6) a7 a8 a9 b1)
  · cases hst
theorem go_ldA (row : ∀ {H : Heap} {locs : List Loc} {cells slots : Nat} {ls : Array Slot} {rest : List Value} {x : Nat}, ls[k]? = some (.val (.ref x)) → W p l e R s m args below meth c H locs cells slots Q (F0 m np ls (.ref x :: rest)) → W p l e R s m args below meth c H locs cells slots Q (F0 m pc ls rest))
    (hst : ldA lo st np k h = some (.inl (pc', lo', st', h'))) (kk : GO p l e R s m args below meth c base D tc adK b0 y L0 n0 c0 k0 Q pc' lo' st' h') : GO p l e R s m args below meth c base D tc adK b0 y L0 n0 c0 k0 Q pc lo st h := by
  unfold ldA at hst
  split at hst
  · rename_i x hx
    obtain ⟨rfl, rfl, rfl, rfl⟩ := sNx_inj hst
    intro L H locs cells slots ls a1 a2 a3 a4 a5 a6 a7 a8 a9 b1
    exact row (rlo_at a3 hx (by intro q; cases q)) (kk L H locs cells slots ls a1 a2 a3 a4 a5 (ok_cons (a5 _ (List.mem_of_getElem? hx)) a6) a7 a8 a9 b1)
  · cases hst
theorem go_stI (row : ∀ {H : Heap} {locs : List Loc} {cells slots : Nat} {ls : Array Slot} {rest : List Value} {x : Int32} {nL : Nat} {lv : List (Nat × Value)}, lv_has ls nL lv → k < nL → (∀ ls' : Array Slot, lv_has ls' nL ((k, Value.int x) :: lv.filter (fun q => !(q.1 == k) && !(q.1 + 1 == k && q.2.category == 2))) → W p l e R s m args below meth c H locs cells slots Q (F0 m np ls' rest)) → W p l e R s m args below meth c H locs cells slots Q (F0 m pc ls (.int x :: rest)))
    (hst : stI lo st np k h = some (.inl (pc', lo', st', h'))) (kk : GO p l e R s m args below meth c base D tc adK b0 y L0 n0 c0 k0 Q pc' lo' st' h') : GO p l e R s m args below meth c base D tc adK b0 y L0 n0 c0 k0 Q pc lo st h := by
  unfold stI at hst
  split at hst
  · rename_i x st
    cases hb : (nlo lo k && Nat.blt k lo.length) with
    | false => rw [hb] at hst; cases hst
    | true =>
      rw [hb] at hst
      simp only [Bool.and_eq_true] at hb
      obtain ⟨rfl, rfl, rfl, rfl⟩ := sNx_inj hst
      intro L H locs cells slots ls a1 a2 a3 a4 a5 a6 a7 a8 a9 b1
      refine row a3 (by rw [← a4]; exact Nat.le_of_ble_eq_true hb.2) (fun ls' hl' => ?_)
      exact kk L H locs cells slots ls' a1 a2 (lv_mono hl' (rlo_set1 (v := vI x) hb.1)) (by rw [List.length_set]; exact a4) (ok_set trivial a5) (ok_tl a6) a7 a8 a9 b1
  · cases hst
theorem go_stA (row : ∀ {H : Heap} {locs : List Loc} {cells slots : Nat} {ls : Array Slot} {rest : List Value} {x : Nat} {nL : Nat} {lv : List (Nat × Value)}, lv_has ls nL lv → k < nL → (∀ ls' : Array Slot, lv_has ls' nL ((k, Value.ref x) :: lv.filter (fun q => !(q.1 == k) && !(q.1 + 1 == k && q.2.category == 2))) → W p l e R s m args below meth c H locs cells slots Q (F0 m np ls' rest)) → W p l e R s m args below meth c H locs cells slots Q (F0 m pc ls (.ref x :: rest)))
    (hst : stA lo st np k h = some (.inl (pc', lo', st', h'))) (kk : GO p l e R s m args below meth c base D tc adK b0 y L0 n0 c0 k0 Q pc' lo' st' h') : GO p l e R s m args below meth c base D tc adK b0 y L0 n0 c0 k0 Q pc lo st h := by
  unfold stA at hst
  split at hst
  · rename_i x st
    cases hb : (nlo lo k && Nat.blt k lo.length) with
    | false => rw [hb] at hst; cases hst
    | true =>
      rw [hb] at hst
      simp only [Bool.and_eq_true] at hb
      obtain ⟨rfl, rfl, rfl, rfl⟩ := sNx_inj hst
      intro L H locs cells slots ls a1 a2 a3 a4 a5 a6 a7 a8 a9 b1
      refine row a3 (by rw [← a4]; exact Nat.le_of_ble_eq_true hb.2) (fun ls' hl' => ?_)
      exact kk L H locs cells slots ls' a1 a2 (lv_mono hl' (rlo_set1 (v := .inr (.inr (.inl x))) hb.1)) (by rw [List.length_set]; exact a4) (ok_set (ok_hd a6) a5) (ok_tl a6) a7 a8 a9 b1
  · cases hst
theorem go_stJ (row : ∀ {H : Heap} {locs : List Loc} {cells slots : Nat} {ls : Array Slot} {rest : List Value} {x : Int64} {nL : Nat} {lv : List (Nat × Value)}, lv_has ls nL lv → k + 1 < nL → (∀ ls' : Array Slot, lv_has ls' nL ((k, Value.long x) :: lv.filter (fun q => !(q.1 == k) && (!(q.1 == k + 1) && !(q.1 + 1 == k && q.2.category == 2)))) → W p l e R s m args below meth c H locs cells slots Q (F0 m np ls' rest)) → W p l e R s m args below meth c H locs cells slots Q (F0 m pc ls (.long x :: rest)))
    (hst : stJ lo st np k h = some (.inl (pc', lo', st', h'))) (kk : GO p l e R s m args below meth c base D tc adK b0 y L0 n0 c0 k0 Q pc' lo' st' h') : GO p l e R s m args below meth c base D tc adK b0 y L0 n0 c0 k0 Q pc lo st h := by
  unfold stJ at hst
  split at hst
  · rename_i x st
    cases hb : (nlo lo k && Nat.blt (k + 1) lo.length) with
    | false => rw [hb] at hst; cases hst
    | true =>
      rw [hb] at hst
      simp only [Bool.and_eq_true] at hb
      obtain ⟨rfl, rfl, rfl, rfl⟩ := sNx_inj hst
      intro L H locs cells slots ls a1 a2 a3 a4 a5 a6 a7 a8 a9 b1
      refine row a3 (by rw [← a4]; exact Nat.le_of_ble_eq_true hb.2) (fun ls' hl' => ?_)
      exact kk L H locs cells slots ls' a1 a2 (lv_mono hl' (rlo_set2 (v := vJ x) hb.1)) (by rw [List.length_set, List.length_set]; exact a4) (ok_set trivial (ok_set trivial a5)) (ok_tl a6) a7 a8 a9 b1
  · cases hst
theorem go_bin {f : Int32 → Int32 → Int32} (row : ∀ {H : Heap} {locs : List Loc} {cells slots : Nat} {ls : Array Slot} {rest : List Value} {x y : Int32}, W p l e R s m args below meth c H locs cells slots Q (F0 m np ls (.int (f x y) :: rest)) → W p l e R s m args below meth c H locs cells slots Q (F0 m pc ls (.int y :: .int x :: rest)))
    (hst : bin f lo st np h = some (.inl (pc', lo', st', h'))) (kk : GO p l e R s m args below meth c base D tc adK b0 y L0 n0 c0 k0 Q pc' lo' st' h') : GO p l e R s m args below meth c base D tc adK b0 y L0 n0 c0 k0 Q pc lo st h := by
  unfold bin at hst
  split at hst
  · obtain ⟨rfl, rfl, rfl, rfl⟩ := sNx_inj hst
    intro L H locs cells slots ls a1 a2 a3 a4 a5 a6 a7 a8 a9 b1
    exact row (kk L H locs cells slots ls a1 a2 a3 a4 a5 (ok_cons trivial (ok_tl (ok_tl a6))) a7 a8 a9 b1)
  · cases hst
theorem go_binD {f : Int32 → Int32 → Int32} (row : ∀ {H : Heap} {locs : List Loc} {cells slots : Nat} {ls : Array Slot} {rest : List Value} {x y : Int32}, ¬ y = 0 → W p l e R s m args below meth c H locs cells slots Q (F0 m np ls (.int (f x y) :: rest)) → W p l e R s m args below meth c H locs cells slots Q (F0 m pc ls (.int y :: .int x :: rest)))
    (hst : binD f lo st np h = some (.inl (pc', lo', st', h'))) (kk : GO p l e R s m args below meth c base D tc adK b0 y L0 n0 c0 k0 Q pc' lo' st' h') : GO p l e R s m args below meth c base D tc adK b0 y L0 n0 c0 k0 Q pc lo st h := by
  unfold binD at hst
  split at hst
  · split at hst
    · cases hst
    · rename_i hy
      obtain ⟨rfl, rfl, rfl, rfl⟩ := sNx_inj hst
      intro L H locs cells slots ls a1 a2 a3 a4 a5 a6 a7 a8 a9 b1
      exact row hy (kk L H locs cells slots ls a1 a2 a3 a4 a5 (ok_cons trivial (ok_tl (ok_tl a6))) a7 a8 a9 b1)
  · cases hst
theorem go_binJ {f : Int64 → Int64 → Int64} (row : ∀ {H : Heap} {locs : List Loc} {cells slots : Nat} {ls : Array Slot} {rest : List Value} {x y : Int64}, W p l e R s m args below meth c H locs cells slots Q (F0 m np ls (.long (f x y) :: rest)) → W p l e R s m args below meth c H locs cells slots Q (F0 m pc ls (.long y :: .long x :: rest)))
    (hst : binJ f lo st np h = some (.inl (pc', lo', st', h'))) (kk : GO p l e R s m args below meth c base D tc adK b0 y L0 n0 c0 k0 Q pc' lo' st' h') : GO p l e R s m args below meth c base D tc adK b0 y L0 n0 c0 k0 Q pc lo st h := by
  unfold binJ at hst
  split at hst
  · obtain ⟨rfl, rfl, rfl, rfl⟩ := sNx_inj hst
    intro L H locs cells slots ls a1 a2 a3 a4 a5 a6 a7 a8 a9 b1
    exact row (kk L H locs cells slots ls a1 a2 a3 a4 a5 (ok_cons trivial (ok_tl (ok_tl a6))) a7 a8 a9 b1)
  · cases hst
theorem go_br1 {f : Int32 → Bool} {tg : Nat} (row : ∀ {H : Heap} {locs : List Loc} {cells slots : Nat} {ls : Array Slot} {rest : List Value} {x : Int32}, (f x = true → W p l e R s m args below meth c H locs cells slots Q (F0 m tg ls rest)) → (f x = false → W p l e R s m args below meth c H locs cells slots Q (F0 m np ls rest)) → W p l e R s m args below meth c H locs cells slots Q (F0 m pc ls (.int x :: rest)))
    (hst : br1 f lo st np tg h = some (.inl (pc', lo', st', h'))) (kk : GO p l e R s m args below meth c base D tc adK b0 y L0 n0 c0 k0 Q pc' lo' st' h') : GO p l e R s m args below meth c base D tc adK b0 y L0 n0 c0 k0 Q pc lo st h := by
  unfold br1 at hst
  split at hst
  · rename_i x st
    intro L H locs cells slots ls a1 a2 a3 a4 a5 a6 a7 a8 a9 b1
    refine row (fun hf => ?_) (fun hf => ?_)
    · rw [hf] at hst
      obtain ⟨rfl, rfl, rfl, rfl⟩ := sNx_inj hst
      exact kk L H locs cells slots ls a1 a2 a3 a4 a5 (ok_tl a6) a7 a8 a9 b1
    · rw [hf] at hst
      obtain ⟨rfl, rfl, rfl, rfl⟩ := sNx_inj hst
      exact kk L H locs cells slots ls a1 a2 a3 a4 a5 (ok_tl a6) a7 a8 a9 b1
  · cases hst
theorem go_br2 {f : Int32 → Int32 → Bool} {tg : Nat} (row : ∀ {H : Heap} {locs : List Loc} {cells slots : Nat} {ls : Array Slot} {rest : List Value} {x y : Int32}, (f x y = true → W p l e R s m args below meth c H locs cells slots Q (F0 m tg ls rest)) → (f x y = false → W p l e R s m args below meth c H locs cells slots Q (F0 m np ls rest)) → W p l e R s m args below meth c H locs cells slots Q (F0 m pc ls (.int y :: .int x :: rest)))
    (hst : br2 f lo st np tg h = some (.inl (pc', lo', st', h'))) (kk : GO p l e R s m args below meth c base D tc adK b0 y L0 n0 c0 k0 Q pc' lo' st' h') : GO p l e R s m args below meth c base D tc adK b0 y L0 n0 c0 k0 Q pc lo st h := by
  unfold br2 at hst
  split at hst
  · rename_i x st
    intro L H locs cells slots ls a1 a2 a3 a4 a5 a6 a7 a8 a9 b1
    refine row (fun hf => ?_) (fun hf => ?_)
    · rw [hf] at hst
      obtain ⟨rfl, rfl, rfl, rfl⟩ := sNx_inj hst
      exact kk L H locs cells slots ls a1 a2 a3 a4 a5 (ok_tl (ok_tl a6)) a7 a8 a9 b1
    · rw [hf] at hst
      obtain ⟨rfl, rfl, rfl, rfl⟩ := sNx_inj hst
      exact kk L H locs cells slots ls a1 a2 a3 a4 a5 (ok_tl (ok_tl a6)) a7 a8 a9 b1
  · cases hst
end STEP
end
section
/-! ONE STEP, of fields, arrays and new cells -/
theorem tab_lt : (List.range 252).all (fun y => Nat.blt (mcx y) 13) = true := by decide +kernel
theorem mcx_lt {y : Nat} (h : y < 252) : mcx y < 13 := Nat.le_of_ble_eq_true (List.all_eq_true.mp tab_lt y (List.mem_range.mpr h))
theorem celE_congr {tc : Nat → ClassId} {L L' : AD} {h h' : AH} {i c : Nat} (hg : ∀ k, hG h' i c k = hG h i c k) (hq : ∀ k, hQ h' i c k = hQ h i c k) (hr : ∀ k, (hR h' i c k).map (fun p => L' p.1 p.2) = (hR h i c k).map (fun p => L p.1 p.2)) : celE tc L' h' i c = celE tc L h i c := by
  have e1 : hG h' i c = hG h i c := funext hg
  have e2 : hQ h' i c = hQ h i c := funext hq
  unfold celE
  split
  · congr 2
    refine List.map_congr_left fun k _ => ?_
    simp only [fV, hg, hq, hr]
  · simp only [arV, e1, e2]
    congr 3
    split
    · rfl
    · congr 4
      exact funext hr
    · rfl
theorem celE_obj {tc : Nat → ClassId} {L : AD} {h : AH} {i c ci : Nat} (hk : KD c = .inl ci) : celE tc L h i c = .inr (ci, (List.range (fcn ci)).map (fV L h i c ci)) := by
  unfold celE
  rw [hk]
theorem celE_arr {tc : Nat → ClassId} {L : AD} {h : AH} {i c q n : Nat} (hk : KD c = .inr (q, n)) : celE tc L h i c = .inl (tc q, arV L h i c q n) := by
  unfold celE
  rw [hk]
theorem range_set {f g : Nat → Value} {n k : Nat} {v : Value} (h1 : g k = v) (h2 : ∀ j, j ≠ k → g j = f j) : ((List.range n).map f).set k v = (List.range n).map g := by
  apply List.ext_getElem?
  intro j
  rw [List.getElem?_set]
  by_cases hj : k = j
  · subst hj
    rw [if_pos rfl]
    by_cases hn : k < n
    · rw [if_pos (by simpa using hn)]
      simp [hn, h1]
    · rw [if_neg (by simpa using hn), List.getElem?_eq_none (by simpa using hn)]
  · rw [if_neg hj]
    by_cases hn : j < n
    · simp [hn, h2 j (fun q => hj q.symm)]
    · rw [List.getElem?_eq_none (by simpa using hn), List.getElem?_eq_none (by simpa using hn)]
theorem u3_ne {α : Type} {f : Nat → Nat → Nat → α} {i c k i' c' : Nat} {v : α} (h : (i', c') ≠ (i, c)) (k' : Nat) : u3 f i c k v i' c' k' = f i' c' k' := by
  unfold u3
  rw [if_neg]
  rintro ⟨rfl, rfl, -⟩
  exact h rfl
theorem u3_at {α : Type} {f : Nat → Nat → Nat → α} {i c k : Nat} {v : α} (k' : Nat) : u3 f i c k v i c k' = if k' = k then v else f i c k' := by
  unfold u3
  by_cases h : k' = k
  · rw [if_pos ⟨rfl, rfl, h⟩, if_pos h]
  · rw [if_neg (fun q => h q.2.2), if_neg h]
theorem u2_ne {α : Type} {f : Nat → Nat → Nat → α} {i c i' c' : Nat} {w : Nat → α} (h : (i', c') ≠ (i, c)) (k' : Nat) : u2 f i c w i' c' k' = f i' c' k' := by
  unfold u2
  rw [if_neg]
  rintro ⟨rfl, rfl⟩
  exact h rfl
theorem u2_at {α : Type} {f : Nat → Nat → Nat → α} {i c : Nat} {w : Nat → α} (k' : Nat) : u2 f i c w i c k' = w k' := by
  unfold u2
  rw [if_pos ⟨rfl, rfl⟩]
theorem inb_in {j : Int32} {n : Nat} (h : inb j n = true) : vp_in j n := by
  unfold inb at h
  simp only [Bool.and_eq_true, Bool.not_eq_true', decide_eq_false_iff_not] at h
  rintro (q | q)
  · exact h.1 q
  · have := Nat.le_of_ble_eq_true h.2
    omega
theorem tc_int {ty : FieldType} (h : tcF ty = 0) : ty = .int := by cases ty <;> simp [tcF] at h ⊢
theorem tc_long {ty : FieldType} (h : tcF ty = 1) : ty = .long := by cases ty <;> simp [tcF] at h ⊢
theorem tc_ref {ty : FieldType} (h : tcF ty = 2) (a : Nat) : narrow ty (.ref a) = .ref a ∧ fits ty (.ref a) = true := by cases ty <;> first | (simp [tcF] at h; done) | exact ⟨rfl, rfl⟩
/-- what stands of the words at a method's begin -/
def WX (s : State) (args : Array Value) (D : va_G) (tc : Nat → ClassId) (base b0 : Nat) (sc : SC) (adK : Nat → Nat) : Prop :=
  WD s args D tc ∧ va_X b0 sc.1 sc.2 s s.heap ∧ b0 < base ∧ base ≤ s.heap.size ∧ (∀ i q, strL[i]? = some q → vk_R q.1 q.2.1 q.2.2 (adK i) s) ∧ va_AO "MountSpaces$Mounts" s
section HEAP
variable {p : Program} {l : Launch} {e : Env} {R : Room} {s : State} {m : MethodId} {args : Array Value} {below : List Frame} {meth : Method} {c : Code} {base : Nat} {D : va_G} {tc : Nat → ClassId} {adK : Nat → Nat} {b0 y : Nat} {L0 : AD} {n0 c0 k0 : Nat} {Q : State → Prop} {pc np pc' k : Nat} {lo st lo' st' : List AV} {h h' : AH} {sc : SC}
theorem lays_good {C : String} {T : u_T} {N : Nat} (hin : ∀ w ∈ u_ws C T N, w ∈ lw_tbl) (W0 : WD s args D tc) : ∀ w ∈ u_ws C T N, w.before args s = true := by
  intro w hw
  refine W0.1 w (hin w hw) ?_
  obtain ⟨k, -, rfl⟩ := List.mem_map.mp hw
  unfold u_lay
  split <;> rfl
theorem va_hA {s : State} {base : Nat} (h : base ≤ s.heap.size) : ∀ q, s.heap.size ≤ q → base ≤ q := fun _ hq => Nat.le_trans h hq
/-- the picture behind a changed cell -/
theorem RL.set {L : AD} {H H1 : Heap} {j : Nat} {ev : va_E} (hZ : RL base D tc adK b0 L h H) (hj : j < h.1.1) (h1 : h'.1.1 = h.1.1) (he : celE tc L h' (nm j).1 (nm j).2 = ev) (ho : ∀ i c, (i, c) ≠ nm j → celE tc L h' i c = celE tc L h i c)
    (hrf : ∀ j, j < h.1.1 → ∀ k p, hR h' (nm j).1 (nm j).2 k = some p → okP h.1.1 p)
    (hP : va_P D cls9 ((wsE tc L h).set j (L (nm j).1 (nm j).2, ev)) H1) (hD : va_D (fun q => base ≤ q) ((wsE tc L h).set j (L (nm j).1 (nm j).2, ev))) : RL base D tc adK b0 L h' H1 := by
  rw [ws_set hj hZ.2.2.1 h1 he ho] at hP hD
  exact ⟨hP, hD, by rw [h1]; exact hZ.2.2.1, by rw [h1]; exact hrf, hZ.2.2.2.2.1, hZ.2.2.2.2.2⟩
theorem fV_0 {L : AD} {h : AH} {i c ci k : Nat} (e : ftc ci k = 0) : fV L h i c ci k = .int (hG h i c k) := by simp only [fV, e]
theorem fV_1 {L : AD} {h : AH} {i c ci k : Nat} (e : ftc ci k = 1) : fV L h i c ci k = .long (hQ h i c k) := by simp only [fV, e]
theorem fV_2 {L : AD} {h : AH} {i c ci k : Nat} (e : ftc ci k = 0 → False) (e1 : ftc ci k = 1 → False) : fV L h i c ci k = va_rf ((hR h i c k).map fun p => L p.1 p.2) := by
  unfold fV
  split
  · rename_i q; exact absurd q e
  · rename_i q; exact absurd q e1
  · rfl
theorem go_getf (F : FX p R s m meth c y) (W0 : WX s args D tc base b0 sc adK) {i0 : Nat} (dec : decode (mByt y) pc = .ok (.getfield k, 3)) {K : List (Nat × Instr × Nat)}
    (hst : stp sc y K (.getfield k) (pc + 3) i0 lo st h = some (.inl (pc', lo', st', h'))) (kk : GO p l e R s m args below meth c base D tc adK b0 y L0 n0 c0 k0 Q pc' lo' st' h') : GO p l e R s m args below meth c base D tc adK b0 y L0 n0 c0 k0 Q pc lo st h := by
  obtain ⟨hx, hb, hml, hown, hret, hlk, hini, hy, hRf, hRl⟩ := F
  unfold stp at hst
  dsimp only at hst
  split at hst
  · rename_i ci f ty wi i cc st hf
    cases ho : isO cc ci with
    | false => rw [ho] at hst; cases hst
    | true =>
      rw [ho] at hst
      dsimp only [cond_true] at hst
      obtain ⟨f1, f2, f3, f4, f5⟩ := fk_all (mcx y) (mcx_lt hy) _ (fnd_mem hf)
      dsimp only at f1 f2 f3 f4 f5
      obtain ⟨k1, k2, k3, k4, k5, k6, k7⟩ := kf_all ci f1
      intro L H locs cells slots ls a1 a2 a3 a4 a5 a6 a7 a8 a9 b1
      have hok := (ok_hd a6 : okA h.1.1 (i, cc)).P (KD_lt ho (by omega))
      obtain ⟨j, hj, hnm⟩ := hok
      have hws := ws_at (tc := tc) (L := L) (h := h) hj
      rw [hnm] at hws
      rw [celE_obj (isO_KD ho)] at hws
      have hfl : (List.map (fV L h i cc ci) (List.range (fcn ci)))[f]? = some (fV L h i cc ci f) := by
        rw [k4] at f2
        simp [f2]
      refine va_get hx hb (Ts := u_ws (cN9 ci) (cT9 ci) (cS9 ci)) (lays_good k1 W0.1) (fun _ h => h) hown W0.1.2 a1.1 j hws k7 f f2 (W0.1.w f3) (fun x hx => by rw [f4] at hx; exact hx) hfl dec ?_
      split at hst
      · obtain ⟨rfl, rfl, rfl, rfl⟩ := sNx_inj hst
        rw [fV_0 f5.symm]
        exact kk L H locs cells slots ls a1 a2 a3 a4 a5 (ok_cons trivial (ok_tl a6)) a7 a8 a9 b1
      · obtain ⟨rfl, rfl, rfl, rfl⟩ := sNx_inj hst
        rw [fV_1 f5.symm]
        exact kk L H locs cells slots ls a1 a2 a3 a4 a5 (ok_cons trivial (ok_tl a6)) a7 a8 a9 b1
      · rename_i n1 n2
        cases hpr : hR h i cc f with
        | none => rw [hpr] at hst; cases hst
        | some pr =>
          rw [hpr] at hst
          obtain ⟨rfl, rfl, rfl, rfl⟩ := sNx_inj hst
          have h9 := kk L H locs cells slots ls a1 a2 a3 a4 a5 (ok_cons (v := .inr (.inr (.inl pr))) (Or.inl (a1.2.2.2.1 j hj f pr (by rw [hnm]; exact hpr))) (ok_tl a6)) a7 a8 a9 b1
          rw [fV_2 (by rw [← f5]; exact n1) (by rw [← f5]; exact n2), hpr]
          exact h9
  · cases hst
theorem len_map_range {f : Nat → Value} {n : Nat} : ((List.range n).map f).length = n := by simp
/-- putfield, whatever its kind: the new picture is given -/
theorem put_any (F : FX p R s m meth c y) (W0 : WX s args D tc base b0 sc adK) (dec : decode (mByt y) pc = .ok (.putfield k, 3)) {L : AD} {H : Heap} {locs : List Loc} {cells slots : Nat} {ls : Array Slot} {ci f ty wi i cc : Nat} {rest : List Value} {v : Value}
    (hf : fnd (fTL.getD (mcx y) []) k = some (ci, f, ty, wi)) (ho : isO cc ci = true) (hfin : (cT9 ci f).2.2.2 = false ∨ (mkd y = 2 ∧ ci = mcx y)) (hfit : narrow (tyf ci f) v = v ∧ fits (tyf ci f) v = true)
    (a1 : RL base D tc adK b0 L h H) (a2 : va_S (fun q => base ≤ q) s.heap H locs) (hok : okP h.1.1 (i, cc)) (h1 : h'.1.1 = h.1.1)
    (hg : ∀ j, fV L h' i cc ci j = if j = f then v else fV L h i cc ci j) (ho2 : ∀ i' c', (i', c') ≠ (i, cc) → celE tc L h' i' c' = celE tc L h i' c')
    (hrf : ∀ j, j < h.1.1 → ∀ k p, hR h' (nm j).1 (nm j).2 k = some p → okP h.1.1 p)
    (kk : ∀ (H1 : Heap) (locs1 : List Loc), RL base D tc adK b0 L h' H1 → va_S (fun q => base ≤ q) s.heap H1 locs1 → W p l e R s m args below meth c H1 locs1 cells slots Q (F0 m (pc + 3) ls rest)) :
    W p l e R s m args below meth c H locs cells slots Q (F0 m pc ls (v :: .ref (L i cc) :: rest)) := by
  obtain ⟨hx, hb, hml, hown, hret, hlk, hini, hy, hRf, hRl⟩ := F
  obtain ⟨f1, f2, f3, f4, f5⟩ := fk_all (mcx y) (mcx_lt hy) _ (fnd_mem hf)
  dsimp only at f1 f2 f3 f4 f5
  obtain ⟨k1, k2, k3, k4, k5, k6, k7⟩ := kf_all ci f1
  obtain ⟨j, hj, hnm⟩ := hok
  have hws := ws_at (tc := tc) (L := L) (h := h) hj
  rw [hnm] at hws
  rw [celE_obj (isO_KD ho)] at hws
  have hlen : f < (List.map (fV L h i cc ci) (List.range (fcn ci))).length := by rw [len_map_range, ← k4]; exact f2
  have hset : (List.map (fV L h i cc ci) (List.range (fcn ci))).set f v = List.map (fV L h' i cc ci) (List.range (fcn ci)) := range_set (by rw [hg, if_pos rfl]) (fun q hq => by rw [hg, if_neg hq])
  have fin : ∀ (H1 : Heap) (locs1 : List Loc), va_P D cls9 ((wsE tc L h).set j (L i cc, .inr (ci, (List.map (fV L h i cc ci) (List.range (fcn ci))).set f v))) H1 → va_D (fun q => base ≤ q) ((wsE tc L h).set j (L i cc, .inr (ci, (List.map (fV L h i cc ci) (List.range (fcn ci))).set f v))) → va_S (fun q => base ≤ q) s.heap H1 locs1 → W p l e R s m args below meth c H1 locs1 cells slots Q (F0 m (pc + 3) ls rest) := by
    intro H1 locs1 hP hD hS
    rw [hset] at hP hD
    refine kk H1 locs1 (RL.set a1 hj h1 ?_ ?_ hrf (by rw [hnm]; exact hP) (by rw [hnm]; exact hD)) hS
    · rw [hnm]; exact celE_obj (isO_KD ho)
    · rw [hnm]; exact ho2
  cases hff : (cT9 ci f).2.2.2 with
  | false => exact va_put hx hb (Ts := u_ws (cN9 ci) (cT9 ci) (cS9 ci)) (lays_good k1 W0.1) (fun _ h => h) (tyf ci) k2 k3 hown W0.1.2 a1.1 a1.2.1 a2 j hws k7 f f2 (W0.1.w f3) (fun x hx => by rw [f4] at hx; exact hx) hff (k2 f f2) hfit.1 hfit.2 hlen dec fin
  | true =>
    rcases hfin with q | ⟨q1, q2⟩
    · rw [hff] at q; cases q
    · exact va_putF hx hb (Ts := u_ws (cN9 ci) (cT9 ci) (cS9 ci)) (lays_good k1 W0.1) (fun _ h => h) (tyf ci) k2 k3 hown W0.1.2 a1.1 a1.2.1 a2 j hws k7 f f2 (W0.1.w f3) (fun x hx => by rw [f4] at hx; exact hx) hff (hini q1) (by rw [f4, k5, q2]) (k2 f f2) hfit.1 hfit.2 hlen dec fin
theorem go_putf (F : FX p R s m meth c y) (W0 : WX s args D tc base b0 sc adK) {i0 : Nat} (dec : decode (mByt y) pc = .ok (.putfield k, 3)) {K : List (Nat × Instr × Nat)}
    (hst : stp sc y K (.putfield k) (pc + 3) i0 lo st h = some (.inl (pc', lo', st', h'))) (kk : GO p l e R s m args below meth c base D tc adK b0 y L0 n0 c0 k0 Q pc' lo' st' h') : GO p l e R s m args below meth c base D tc adK b0 y L0 n0 c0 k0 Q pc lo st h := by
  have hy : y < 252 := F.2.2.2.2.2.2.2.1
  unfold stp at hst
  dsimp only at hst
  split at hst
  · rename_i ci f ty wi v i cc st hf
    cases hob : (isO cc ci && (!((cls9.getD ci ("", jT0, 0)).2.1 f).2.2.2 || (Nat.beq (mkd y) 2 && Nat.beq ci (mcx y)))) with
    | false => rw [hob] at hst; cases hst
    | true =>
      rw [hob] at hst
      dsimp only [cond_true] at hst
      simp only [Bool.and_eq_true, Bool.or_eq_true, Bool.not_eq_true'] at hob
      obtain ⟨ho, hfin⟩ := hob
      have hfin' : (cT9 ci f).2.2.2 = false ∨ (mkd y = 2 ∧ ci = mcx y) := hfin.imp (fun q => q) (fun q => ⟨Nat.eq_of_beq_eq_true q.1, Nat.eq_of_beq_eq_true q.2⟩)
      obtain ⟨f1, f2, f3, f4, f5⟩ := fk_all (mcx y) (mcx_lt hy) _ (fnd_mem hf)
      dsimp only at f1 f2 f3 f4 f5
      obtain ⟨k1, k2, k3, k4, k5, k6, k7⟩ := kf_all ci f1
      have k6' := k6 f f2
      intro L H locs cells slots ls a1 a2 a3 a4 a5 a6 a7 a8 a9 b1
      have hok := (ok_hd (ok_tl a6) : okA h.1.1 (i, cc)).P (KD_lt ho (by omega))
      split at hst
      · rename_i x
        obtain ⟨rfl, rfl, rfl, rfl⟩ := sNx_inj hst
        have hty := tc_int (ty := tyf ci f) (by rw [k6'.1, ← f5])
        refine put_any F W0 dec hf ho hfin' (by rw [hty]; exact ⟨rfl, rfl⟩) a1 a2 hok (h' := sG h i cc f x) rfl (fun j => ?_) (fun i' c' hne => celE_congr (fun k => u3_ne hne k) (fun _ => rfl) (fun _ => rfl)) a1.2.2.2.1 (fun H1 locs1 r1 r2 => kk L H1 locs1 cells slots ls r1 r2 a3 a4 a5 (ok_tl (ok_tl a6)) a7 a8 a9 b1)
        by_cases hj : j = f
        · subst hj
          simp only [fV, ← f5, if_pos, hG, sG, u3_at]
          rfl
        · simp only [fV, hG, sG, hQ, hR, u3_at, if_neg hj]
      · rename_i x
        obtain ⟨rfl, rfl, rfl, rfl⟩ := sNx_inj hst
        have hty := tc_long (ty := tyf ci f) (by rw [k6'.1, ← f5])
        refine put_any F W0 dec hf ho hfin' (by rw [hty]; exact ⟨rfl, rfl⟩) a1 a2 hok (h' := sQ h i cc f x) rfl (fun j => ?_) (fun i' c' hne => celE_congr (fun _ => rfl) (fun k => u3_ne hne k) (fun _ => rfl)) a1.2.2.2.1 (fun H1 locs1 r1 r2 => kk L H1 locs1 cells slots ls r1 r2 a3 a4 a5 (ok_tl (ok_tl a6)) a7 a8 a9 b1)
        by_cases hj : j = f
        · subst hj
          simp only [fV, ← f5, if_pos, hQ, sQ, u3_at]
          rfl
        · simp only [fV, hG, sQ, hQ, hR, u3_at, if_neg hj]
      · rename_i pr
        cases hp9 : Nat.blt pr.2 900 with
        | false => rw [hp9] at hst; cases hst
        | true =>
          rw [hp9] at hst
          obtain ⟨rfl, rfl, rfl, rfl⟩ := sNx_inj hst
          have hp8 : pr.2 < 900 := Nat.le_of_ble_eq_true hp9
          have hpk : okP h.1.1 pr := by
            rcases (ok_hd a6 : okA h.1.1 pr) with q | ⟨q, -⟩ | q
            · exact q
            · omega
            · rw [q] at hp8; exact absurd hp8 (by decide)
          refine put_any F W0 dec hf ho hfin' (tc_ref (by rw [k6'.1, ← f5]) _) a1 a2 hok (h' := sR h i cc f pr) rfl (fun j => ?_) (fun i' c' hne => celE_congr (fun _ => rfl) (fun _ => rfl) (fun k => congrArg _ (u3_ne hne k))) (fun j hj k q hq => ?_) (fun H1 locs1 r1 r2 => kk L H1 locs1 cells slots ls r1 r2 a3 a4 a5 (ok_tl (ok_tl a6)) a7 a8 a9 b1)
          · by_cases hj : j = f
            · subst hj
              simp only [fV, ← f5, if_pos, hR, sR, u3_at]
              rfl
            · simp only [fV, hG, sR, hQ, hR, u3_at, if_neg hj]
          · have hq' : u3 (hR h) i cc f (some pr) (nm j).1 (nm j).2 k = some q := hq
            unfold u3 at hq'
            split at hq'
            · cases hq'; exact hpk
            · exact a1.2.2.2.1 j hj k q hq'
      · cases hst
  · cases hst
end HEAP
end
section
/-! ONE STEP, of arrays and new cells -/
def tyT : Nat → FieldType
  | 0 => .int
  | 1 => .byte
  | 2 => .boolean
  | 3 => .long
  | _ => .object "MountSpaces$Mounts"
theorem narT_byte (x : Int32) : narT 1 x = vp_nar .byte x := rfl
theorem narT_bool (x : Int32) : narT 2 x = vp_nar .boolean x := rfl
theorem arr_small : KDL.all (fun q => match q with
  | .inr (t, n) => Nat.blt t 5 && Nat.ble n 7800
  | .inl _ => true) = true := by decide +kernel
theorem KDA_small {c q n : Nat} (h : isA c = some (q, n)) : q < 5 ∧ n ≤ 7800 := by
  have hc := KDA_lt h
  have hk := isA_KD h
  have hm : KDL[c]? = some (KD c) := by
    unfold KD
    rw [List.getD_eq_getElem?_getD, List.getElem?_eq_getElem (by rw [show KDL.length = 91 from by decide +kernel]; exact hc)]
    rfl
  have h1 := List.all_eq_true.mp arr_small _ (List.mem_of_getElem? hm)
  rw [hk] at h1
  simp only [Bool.and_eq_true] at h1
  exact ⟨Nat.le_of_ble_eq_true h1.1, Nat.le_of_ble_eq_true h1.2⟩
section ARR
variable {p : Program} {l : Launch} {e : Env} {R : Room} {s : State} {m : MethodId} {args : Array Value} {below : List Frame} {meth : Method} {c : Code} {base : Nat} {D : va_G} {tc : Nat → ClassId} {adK : Nat → Nat} {b0 y : Nat} {L0 : AD} {n0 c0 k0 : Nat} {Q : State → Prop} {pc np pc' k : Nat} {lo st lo' st' : List AV} {h h' : AH} {sc : SC}
theorem arr_ws {L : AD} {i cc q n : Nat} (hk : isA cc = some (q, n)) (hok : okP h.1.1 (i, cc)) : ∃ j, j < h.1.1 ∧ nm j = (i, cc) ∧ (wsE tc L h)[j]? = some (L i cc, .inl (tc q, arV L h i cc q n)) := by
  obtain ⟨j, hj, hnm⟩ := hok
  refine ⟨j, hj, hnm, ?_⟩
  have hws := ws_at (tc := tc) (L := L) (h := h) hj
  rw [hnm] at hws
  rw [hws, celE_arr (isA_KD hk)]
theorem arr_okP {n0 i cc : Nat} {q : Nat × Nat} {n : Nat} (hk : isA cc = some q) (ho : okA n (i, cc)) : okP n (i, cc) := ho.P (KDA_lt hk)
theorem fst_script {base b0 : Nat} (h : b0 < base) : ¬ (fun q => base ≤ q) b0 := Nat.not_le.mpr h
theorem go_ald (F : FX p R s m meth c y) (W0 : WX s args D tc base b0 sc adK) {t : Nat → Bool} (tn : np = pc + 1)
    (row : ∀ {H : Heap} {locs : List Loc} {cells slots : Nat} {ls : Array Slot} {rest : List Value} {L : AD} {i cc q n j : Nat} {x : Int32}, t q = true → isA cc = some (q, n) → vp_in x n → va_P D cls9 (wsE tc L h) H → (wsE tc L h)[j]? = some (L i cc, .inl (tc q, arV L h i cc q n)) →
      W p l e R s m args below meth c H locs cells slots Q (F0 m (pc + 1) ls (.int (hG h i cc x.toNatClampNeg) :: rest)) → W p l e R s m args below meth c H locs cells slots Q (F0 m pc ls (.int x :: .ref (L i cc) :: rest)))
    (scr : t 0 = true → decode (mByt y) pc = .ok (.iaload, 1))
    (hst : aldI sc t lo st np h = some (.inl (pc', lo', st', h'))) (kk : GO p l e R s m args below meth c base D tc adK b0 y L0 n0 c0 k0 Q pc' lo' st' h') : GO p l e R s m args below meth c base D tc adK b0 y L0 n0 c0 k0 Q pc lo st h := by
  subst tn
  unfold aldI at hst
  split at hst
  · rename_i x i cc st
    intro L H locs cells slots ls a1 a2 a3 a4 a5 a6 a7 a8 a9 b1
    cases h901 : Nat.beq cc 901 with
    | true =>
      rw [h901] at hst
      dsimp only [cond_true] at hst
      cases hb : (t 0 && inb x sc.1) with
      | false => rw [hb] at hst; cases hst
      | true =>
        rw [hb] at hst
        simp only [Bool.and_eq_true] at hb
        obtain ⟨rfl, rfl, rfl, rfl⟩ := sNx_inj hst
        have hcc := Nat.eq_of_beq_eq_true h901
        subst hcc
        have hi : i = 0 := by
          rcases (ok_hd (ok_tl a6) : okA h.1.1 (i, 901)) with q | ⟨q, -⟩ | q
          · exact absurd (q.lt a1.2.2.1) (by show ¬ 901 < 91; omega)
          · exact absurd (show (901 : Nat) = 900 from q) (by decide)
          · exact (Prod.mk.inj q).1
        subst hi
        have hL : L 0 901 = b0 := a1.2.2.2.2.2
        have key := va_sld (p := p) (l := l) (e := e) (R := R) (s := s) (m := m) (args := args) (below := below) (meth := meth) (c := c) (H := H) (locs := locs) (cells := cells) (slots := slots) (Q := Q) (cc := mByt y) (pc := pc) (ls := ls) (rest := st.map (avV L)) (A := fun q => base ≤ q) (H0 := s.heap) F.1 F.2.1 W0.2.1 (Nat.lt_of_lt_of_le W0.2.2.1 W0.2.2.2.1) (fst_script W0.2.2.1) a2 (inb_in hb.2) (scr hb.1) (kk L H locs cells slots ls a1 a2 a3 a4 a5 (ok_cons trivial (ok_tl (ok_tl a6))) a7 a8 a9 b1)
        show W p l e R s m args below meth c H locs cells slots Q (F0 m pc ls (.int x :: .ref (L 0 901) :: st.map (avV L)))
        rw [hL]
        exact key
    | false =>
      rw [h901] at hst
      dsimp only [cond_false] at hst
      split at hst
      · rename_i q n hq
        cases hb : (t q && inb x n) with
        | false => rw [hb] at hst; cases hst
        | true =>
          rw [hb] at hst
          simp only [Bool.and_eq_true] at hb
          obtain ⟨rfl, rfl, rfl, rfl⟩ := sNx_inj hst
          obtain ⟨j, hj, hnm, hws⟩ := arr_ws (tc := tc) (L := L) hq (arr_okP (n0 := 0) hq (ok_hd (ok_tl a6)))
          exact row hb.1 hq (inb_in hb.2) a1.1 hws (kk L H locs cells slots ls a1 a2 a3 a4 a5 (ok_cons trivial (ok_tl (ok_tl a6))) a7 a8 a9 b1)
      · cases hst
  · cases hst
theorem upd_u3 {f : Nat → Nat → Nat → Int32} {i c k : Nat} {v : Int32} : u3 f i c k v i c = upd (f i c) k v := by
  funext j
  rw [u3_at]
  rfl
theorem go_ast (F : FX p R s m meth c y) (W0 : WX s args D tc base b0 sc adK) {t : Nat → Bool} (tq : ∀ q, t q = true → q < 3)
    (row : ∀ {H : Heap} {locs : List Loc} {cells slots : Nat} {ls : Array Slot} {rest : List Value} {L : AD} {i cc q n j : Nat} {x w : Int32}, t q = true → isA cc = some (q, n) → vp_in x n → va_P D cls9 (wsE tc L h) H → va_D (fun q => base ≤ q) (wsE tc L h) → va_S (fun q => base ≤ q) s.heap H locs → (wsE tc L h)[j]? = some (L i cc, .inl (tc q, arV L h i cc q n)) →
      (∀ (H1 : Heap) (locs1 : List Loc), va_P D cls9 ((wsE tc L h).set j (L i cc, .inl (tc q, n, .inl (upd (hG h i cc) x.toNatClampNeg (narT q w))))) H1 → va_D (fun q => base ≤ q) ((wsE tc L h).set j (L i cc, .inl (tc q, n, .inl (upd (hG h i cc) x.toNatClampNeg (narT q w))))) → va_S (fun q => base ≤ q) s.heap H1 locs1 → W p l e R s m args below meth c H1 locs1 cells slots Q (F0 m np ls rest)) →
      W p l e R s m args below meth c H locs cells slots Q (F0 m pc ls (.int w :: .int x :: .ref (L i cc) :: rest)))
    (hst : astI t lo st np h = some (.inl (pc', lo', st', h'))) (kk : GO p l e R s m args below meth c base D tc adK b0 y L0 n0 c0 k0 Q pc' lo' st' h') : GO p l e R s m args below meth c base D tc adK b0 y L0 n0 c0 k0 Q pc lo st h := by
  unfold astI at hst
  split at hst
  · rename_i w x i cc st
    intro L H locs cells slots ls a1 a2 a3 a4 a5 a6 a7 a8 a9 b1
    split at hst
    · rename_i q n hq
      cases hb : (t q && inb x n) with
      | false => rw [hb] at hst; cases hst
      | true =>
        rw [hb] at hst
        simp only [Bool.and_eq_true] at hb
        obtain ⟨rfl, rfl, rfl, rfl⟩ := sNx_inj hst
        obtain ⟨j, hj, hnm, hws⟩ := arr_ws (tc := tc) (L := L) hq (arr_okP (n0 := 0) hq (ok_hd (ok_tl (ok_tl a6))))
        refine row hb.1 hq (inb_in hb.2) a1.1 a1.2.1 a2 hws (fun H1 locs1 hP hD hS => ?_)
        refine kk L H1 locs1 cells slots ls (RL.set a1 hj (h' := sG h i cc x.toNatClampNeg (narT q w)) rfl (ev := .inl (tc q, n, .inl (upd (hG h i cc) x.toNatClampNeg (narT q w)))) ?_ ?_ a1.2.2.2.1 (by rw [hnm]; exact hP) (by rw [hnm]; exact hD)) hS a3 a4 a5 (ok_tl (ok_tl (ok_tl a6))) a7 a8 a9 b1
        · rw [hnm, celE_arr (isA_KD hq)]
          have h3 := tq q hb.1
          match q, h3 with
          | 0, _ => simp only [arV, hG, sG, upd_u3]
          | 1, _ => simp only [arV, hG, sG, upd_u3]
          | 2, _ => simp only [arV, hG, sG, upd_u3]
        · rw [hnm]
          intro i' c' hne
          exact celE_congr (fun k => u3_ne hne k) (fun _ => rfl) (fun _ => rfl)
    · cases hst
  · cases hst
theorem ra_find {U : State} {ty : FieldType} {cA cB : ClassId} (h1 : va_RA U cA ty) (h2 : va_RA U cB ty) : cA = cB := by
  cases ty with
  | object C =>
    obtain ⟨_, _, _, _, _, e1⟩ := h1
    obtain ⟨_, _, _, _, _, e2⟩ := h2
    exact Option.some.inj (e1.symm.trans e2)
  | _ =>
    unfold va_RA at h1 h2
    dsimp only at h1 h2
    rw [h1] at h2
    exact Option.some.inj h2
theorem tys_at {t : Nat} (ht : t < 5) : (tys9 tc)[t]? = some (tc t, tyT t) := by
  match t, ht with
  | 0, _ => rfl
  | 1, _ => rfl
  | 2, _ => rfl
  | 3, _ => rfl
  | 4, _ => rfl
/-- where the next cell lies -/
def nxL (L : AD) (n a : Nat) : AD := fun i c => if (i, c) = nm n then a else L i c
theorem nxL_at {L : AD} {n a : Nat} : nxL L n a (nm n).1 (nm n).2 = a := by
  unfold nxL
  rw [if_pos rfl]
theorem nxL_ne {L : AD} {n a : Nat} {q : Nat × Nat} (h : q ≠ nm n) : nxL L n a q.1 q.2 = L q.1 q.2 := by
  unfold nxL
  rw [if_neg h]
theorem okA_ne {n : Nat} {q : Nat × Nat} (hn : n < 216) (h : okA n q) : q ≠ nm n := by
  intro e
  rcases h with ⟨j, h1, h2⟩ | ⟨h1, -⟩ | h1
  · have := nm_inj (a := j) (b := n) (by omega) hn (h2.trans e)
    omega
  · have := nm_lt hn
    rw [← e] at this
    omega
  · have := nm_lt hn
    rw [← e, h1] at this
    exact absurd this (by decide)
theorem hG_alc (n i cc k : Nat) : hG (alc h n) i cc k = u2 (hG h) (nm h.1.1).1 (nm h.1.1).2 (fun _ => 0) i cc k := rfl
theorem hQ_alc (n i cc k : Nat) : hQ (alc h n) i cc k = u2 (hQ h) (nm h.1.1).1 (nm h.1.1).2 (fun _ => 0) i cc k := rfl
theorem hR_alc (n i cc k : Nat) : hR (alc h n) i cc k = u2 (hR h) (nm h.1.1).1 (nm h.1.1).2 (fun _ => none) i cc k := rfl
theorem alc_eq (n : Nat) : alc h n = ((h.1.1 + 1, h.1.2.1 + 1, h.1.2.2 + n), u2 h.2.1 (nm h.1.1).1 (nm h.1.1).2 (fun _ => none), u2 h.2.2.1 (nm h.1.1).1 (nm h.1.1).2 (fun _ => 0), u2 h.2.2.2 (nm h.1.1).1 (nm h.1.1).2 (fun _ => 0)) := rfl
theorem RL.push {L : AD} {H1 : Heap} {n a : Nat} {ev : va_E} {H : Heap} (hZ : RL base D tc adK b0 L h H) (hlt : h.1.1 < 216) (hev : celE tc (nxL L h.1.1 a) (alc h n) (nm h.1.1).1 (nm h.1.1).2 = ev)
    (hP : va_P D cls9 (wsE tc L h ++ [(a, ev)]) H1) (hD : va_D (fun q => base ≤ q) (wsE tc L h ++ [(a, ev)])) : RL base D tc adK b0 (nxL L h.1.1 a) (alc h n) H1 := by
  have hne : ∀ j, j < h.1.1 → nm j ≠ nm h.1.1 := fun j hj q => by
    have := nm_inj (by omega) hlt q
    omega
  have hwp : wsE tc L h ++ [(a, ev)] = wsE tc (nxL L h.1.1 a) (alc h n) := by
    refine ws_push rfl nxL_at hev (fun j hj => nxL_ne (hne j hj)) (fun j hj => ?_)
    have hne2 : ((nm j).1, (nm j).2) ≠ ((nm h.1.1).1, (nm h.1.1).2) := hne j hj
    refine celE_congr (fun k => by rw [hG_alc, u2_ne hne2]) (fun k => by rw [hQ_alc, u2_ne hne2]) (fun k => ?_)
    have e1 : hR (alc h n) (nm j).1 (nm j).2 k = hR h (nm j).1 (nm j).2 k := by rw [hR_alc, u2_ne hne2]
    rw [e1]
    cases hq : hR h (nm j).1 (nm j).2 k with
    | none => rfl
    | some q => exact congrArg some (nxL_ne (okA_ne hlt (Or.inl (hZ.2.2.2.1 j hj k q hq))))
  rw [hwp] at hP hD
  refine ⟨hP, hD, hlt, fun j hj k q hq => ?_, fun i hi => ?_, ?_⟩
  · have hj' : j < h.1.1 + 1 := hj
    rcases Nat.lt_succ_iff_lt_or_eq.mp hj' with hj2 | hj2
    · have hne2 : ((nm j).1, (nm j).2) ≠ ((nm h.1.1).1, (nm h.1.1).2) := hne j hj2
      have e1 : hR (alc h n) (nm j).1 (nm j).2 k = hR h (nm j).1 (nm j).2 k := by rw [hR_alc, u2_ne hne2]
      rw [e1] at hq
      exact (hZ.2.2.2.1 j hj2 k q hq).mono (Nat.le_succ _)
    · subst hj2
      have e1 : hR (alc h n) (nm h.1.1).1 (nm h.1.1).2 k = none := by rw [hR_alc, u2_at]
      rw [e1] at hq
      cases hq
  · rw [show nxL L h.1.1 a i 900 = L i 900 from nxL_ne (q := (i, 900)) (okA_ne hlt (Or.inr (Or.inl ⟨rfl, hi⟩)))]
    exact hZ.2.2.2.2.1 i hi
  · rw [show nxL L h.1.1 a 0 901 = L 0 901 from nxL_ne (q := (0, 901)) (okA_ne hlt (Or.inr (Or.inr rfl)))]
    exact hZ.2.2.2.2.2
/-- what goes on with a new cell -/
theorem go_new {L : AD} {H1 : Heap} {n a : Nat} {locs : List Loc} {cells slots : Nat} {ls : Array Slot} (kk : GO p l e R s m args below meth c base D tc adK b0 y L0 n0 c0 k0 Q np lo (.inr (.inr (.inl (nm h.1.1))) :: st) (alc h n)) (hlt : h.1.1 < 216)
    (r1 : RL base D tc adK b0 (nxL L h.1.1 a) (alc h n) H1) (r2 : va_S (fun q => base ≤ q) s.heap H1 locs) (a3 : lv_has ls (mmx y) (rlo L 0 lo)) (a4 : lo.length = mmx y) (a5 : ∀ v ∈ lo, okV h.1.1 v) (a6 : ∀ v ∈ st, okV h.1.1 v) (a7 : cells + c0 = h.1.2.1) (a8 : slots + k0 = h.1.2.2) (a9 : ∀ q, okA n0 q → L q.1 q.2 = L0 q.1 q.2) (b1 : n0 ≤ h.1.1) :
    W p l e R s m args below meth c H1 locs (cells + 1) (slots + n) Q (F0 m np ls (.ref a :: st.map (avV L))) := by
  have hLL : ∀ q, okA h.1.1 q → nxL L h.1.1 a q.1 q.2 = L q.1 q.2 := fun q hq => nxL_ne (okA_ne hlt hq)
  have k9 := kk (nxL L h.1.1 a) H1 locs (cells + 1) (slots + n) ls r1 r2 (lv_mono a3 (rlo_congr hLL a5)) a4 (fun v hv => (a5 v hv).mono (Nat.le_succ _)) (ok_cons (v := .inr (.inr (.inl (nm h.1.1)))) (Or.inl ⟨h.1.1, Nat.lt_succ_self _, rfl⟩) (fun v hv => (a6 v hv).mono (Nat.le_succ _)))
    (show cells + 1 + c0 = h.1.2.1 + 1 by omega) (show slots + n + k0 = h.1.2.2 + n by omega) (fun q hq => by rw [hLL q (hq.mono b1)]; exact a9 q hq) (Nat.le_succ_of_le b1)
  rw [List.map_cons, map_congr9 hLL a6] at k9
  rw [show avV (nxL L h.1.1 a) (.inr (.inr (.inl (nm h.1.1)))) = .ref a from congrArg Value.ref nxL_at] at k9
  exact k9
end ARR
end
section
/-! ONE STEP, all instructions but calls, ends and throws -/
def isBr : Instr → Bool
  | .goto _ | .ifnull _ | .ifCond _ _ | .if_icmp _ _ | .tableswitch _ _ _ _ => true
  | _ => false
theorem absI_nb {pc : Nat} {i0 i : Instr} (h : absI pc i0 = i) (hb : isBr i = false) : i0 = i := by
  cases i0 <;> first | exact h | (subst h; cases hb)
theorem absI_goto {pc : Nat} {i0 : Instr} {t : Int} (h : absI pc i0 = .goto t) : ∃ t0, i0 = .goto t0 ∧ (pc : Int) + t0 = t := by
  cases i0 <;> first | exact ⟨_, rfl, Instr.goto.inj h⟩ | cases h
theorem absI_ifnull {pc : Nat} {i0 : Instr} {t : Int} (h : absI pc i0 = .ifnull t) : ∃ t0, i0 = .ifnull t0 ∧ (pc : Int) + t0 = t := by
  cases i0 <;> first | exact ⟨_, rfl, Instr.ifnull.inj h⟩ | cases h
theorem absI_if {pc : Nat} {i0 : Instr} {c} {t : Int} (h : absI pc i0 = .ifCond c t) : ∃ t0, i0 = .ifCond c t0 ∧ (pc : Int) + t0 = t := by
  cases i0 <;> first | (obtain ⟨h1, h2⟩ := Instr.ifCond.inj h; subst h1; exact ⟨_, rfl, h2⟩) | cases h
theorem absI_cmp {pc : Nat} {i0 : Instr} {c} {t : Int} (h : absI pc i0 = .if_icmp c t) : ∃ t0, i0 = .if_icmp c t0 ∧ (pc : Int) + t0 = t := by
  cases i0 <;> first | (obtain ⟨h1, h2⟩ := Instr.if_icmp.inj h; subst h1; exact ⟨_, rfl, h2⟩) | cases h
theorem absI_tsw {pc : Nat} {i0 : Instr} {d a b : Int} {os : Array Int} (h : absI pc i0 = .tableswitch d a b os) : ∃ d0 os0, i0 = .tableswitch d0 a b os0 ∧ (pc : Int) + d0 = d ∧ os0.map (fun z => (pc : Int) + z) = os := by
  cases i0 <;> first | (obtain ⟨h1, h2, h3, h4⟩ := Instr.tableswitch.inj h; subst h2; subst h3; exact ⟨_, _, rfl, h1, h4⟩) | cases h
def brPos : Instr → Bool
  | .goto t | .ifnull t | .ifCond _ t | .if_icmp _ t => decide (0 ≤ t)
  | .tableswitch d _ _ os => decide (0 ≤ d) && os.toList.all (fun z => decide (0 ≤ z))
  | _ => true
theorem br_all : (List.range 252).all (fun y => (code9 y).all (fun e => brPos e.2.1)) = true := by decide +kernel
theorem br_at {y pc : Nat} {i : Instr} {np : Nat} (hy : y < 252) (h : fnd (code9 y) pc = some (i, np)) : brPos i = true := List.all_eq_true.mp (List.all_eq_true.mp br_all y (List.mem_range.mpr hy)) _ (fnd_mem h)
theorem w_objI : Cond.instanceMethod objectInit ∈ lw_tbl ∧ Cond.code objectInit ⟨#[0xb1]⟩ 1 none ∈ lw_tbl := by decide +kernel
theorem w_max : Cond.static Lib.Math.max.name ∈ lw_tbl ∧ Cond.initialized "java/lang/Math" ∈ lw_tbl ∧ Cond.code Lib.Math.max.name Lib.Math.max.code 2 (some .int) ∈ lw_tbl := by decide +kernel
theorem w_min : Cond.static Lib.Math.min.name ∈ lw_tbl ∧ Cond.code Lib.Math.min.name Lib.Math.min.code 2 (some .int) ∈ lw_tbl := by decide +kernel
theorem w_cpy : Cond.native arraycopyName ∈ lw_tbl ∧ Cond.static arraycopyName ∈ lw_tbl ∧ Cond.initialized "java/lang/System" ∈ lw_tbl := by decide +kernel
theorem w_arr : Cond.arrayClass .int ∈ lw_tbl ∧ Cond.arrayClass .byte ∈ lw_tbl ∧ Cond.arrayClass .boolean ∈ lw_tbl ∧ Cond.arrayClass .long ∈ lw_tbl := by decide +kernel
def INTR (p : Program) (l : Launch) (e : Env) (R : Room) (s : State) (m : MethodId) (args : Array Value) (below : List Frame) (meth : Method) (c : Code) (base : Nat) (adK : Nat → Nat) (y : Nat) (Q : State → Prop) : Prop :=
  ∀ (H : Heap) (locs : List Loc) (cells slots : Nat) (ls : Array Slot) (pc k i : Nat) (rest : List Value), i < strN → va_S (fun q => base ≤ q) s.heap H locs → (rest.map fun v => v.category).sum ≤ 8 → cells ≤ R.cells → slots ≤ R.slots → ls.size = mmx y → decode (mByt y) pc = .ok (.invokevirtual k, 3) →
    ((Cond.methodLink (cnm (mcx y)) k (intN 501)).before args s = true → W p l e R s m args below meth c H locs cells slots Q (F0 m (pc + 3) ls (.int (Int32.ofNat (txt i).length) :: rest)) → W p l e R s m args below meth c H locs cells slots Q (F0 m pc ls (.ref (adK i) :: rest))) ∧
    ∀ j : Int32, inb j (txt i).length = true → (Cond.methodLink (cnm (mcx y)) k (intN 502)).before args s = true → W p l e R s m args below meth c H locs cells slots Q (F0 m (pc + 3) ls (.int ((txt i).getD j.toNatClampNeg 0) :: rest)) → W p l e R s m args below meth c H locs cells slots Q (F0 m pc ls (.int j :: .ref (adK i) :: rest))
section LDW
variable {p : Program} {l : Launch} {e : Env} {R : Room} {s : State} {m : MethodId} {args : Array Value} {below : List Frame} {meth : Method} {c : Code} {H : Heap} {locs : List Loc} {cells slots : Nat} {Q : State → Prop}
variable {cc : ByteArray} {pc : Nat} {ls : Array Slot} {rest : List Value}
theorem ldcSW (hexec : p.tables.exec = Jvm.exec) (hb : c.code = cc) {own tx : String} {index q : Nat} (hown : s.vm.findClass own = some m.cls) (hZ : vk_R own index tx q s) (hdg : decode cc pc = .ok (.ldc_w index, 3))
    (k : W p l e R s m args below meth c H locs cells slots Q (F0 m (pc + 3) ls (.ref q :: rest))) : W p l e R s m args below meth c H locs cells slots Q (F0 m pc ls rest) := by
  intro T hT X
  obtain ⟨t, a1, b1⟩ := k T hT X
  exact ⟨t, X.ldcStringW hexec hown (text := tx) (a := q) hZ.1 hZ.2 (g := F0 m pc ls rest) rfl (by rw [hb]; exact hdg) t a1, b1⟩
end LDW
section STP
variable {p : Program} {l : Launch} {e : Env} {R : Room} {s : State} {m : MethodId} {args : Array Value} {below : List Frame} {meth : Method} {c : Code} {base : Nat} {D : va_G} {tc : Nat → ClassId} {adK : Nat → Nat} {b0 y : Nat} {L0 : AD} {n0 c0 k0 : Nat} {Q : State → Prop} {pc np pc' k : Nat} {lo st lo' st' : List AV} {h h' : AH} {sc : SC}
theorem sTl_at {cx k s9 : Nat} (hc : cx < 13) (h : fnd (sTL.getD cx []) k = some s9) : s9 < strN ∧ ∃ tx, strL[s9]? = some (cnm cx, k, tx) := by
  have h1 := List.all_eq_true.mp (List.all_eq_true.mp sChk cx (List.mem_range.mpr hc)) _ (fnd_mem h)
  unfold sChk1 at h1
  simp only [Bool.and_eq_true, decide_eq_true_eq] at h1
  refine ⟨h1.1, ?_⟩
  have h2 := h1.2
  split at h2
  · rename_i o k' tx hs
    simp only [Bool.and_eq_true, decide_eq_true_eq] at h2
    refine ⟨tx, ?_⟩
    rw [hs, h2.1, Nat.eq_of_beq_eq_true h2.2]
  · cases h2
theorem cats_le {L : AD} {st : List AV} {n : Nat} (h : Nat.ble (cats st) n = true) : ((st.map (avV L)).map fun v => v.category).sum ≤ n := by
  rw [cats_map L st (fun _ _ => Or.inr trivial)]
  exact Nat.le_of_ble_eq_true h
theorem go_ldc (F : FX p R s m meth c y) (W0 : WX s args D tc base b0 sc adK) {s9 : Nat} (hf : fnd (sTL.getD (mcx y) []) k = some s9)
    (row : ∀ {H : Heap} {locs : List Loc} {cells slots : Nat} {ls : Array Slot} {rest : List Value} {tx : String} {a : Nat}, vk_R (cnm (mcx y)) k tx a s → W p l e R s m args below meth c H locs cells slots Q (F0 m np ls (.ref a :: rest)) → W p l e R s m args below meth c H locs cells slots Q (F0 m pc ls rest))
    (hst : sNx np lo (vR s9 900 :: st) h = some (.inl (pc', lo', st', h'))) (kk : GO p l e R s m args below meth c base D tc adK b0 y L0 n0 c0 k0 Q pc' lo' st' h') : GO p l e R s m args below meth c base D tc adK b0 y L0 n0 c0 k0 Q pc lo st h := by
  obtain ⟨h1, tx, h2⟩ := sTl_at (mcx_lt F.2.2.2.2.2.2.2.1) hf
  refine go_push (v := vR s9 900) (Or.inr (Or.inl ⟨rfl, h1⟩)) (fun hZ kw => ?_) hst kk
  have hr := W0.2.2.2.2.1 s9 _ h2
  refine row hr ?_
  rw [← hZ.2.2.2.2.1 s9 h1]
  exact kw
theorem go_newc (F : FX p R s m meth c y) (W0 : WX s args D tc base b0 sc adK) {ci w1 w2 w3 : Nat} (hf : fnd (cTL.getD (mcx y) []) k = some (0, ci, w1, w2, w3)) (dec : decode (mByt y) pc = .ok (.new k, 3)) (hcap : h'.1.2.1 ≤ R.cells + c0 ∧ h'.1.2.2 ≤ R.slots + k0)
    (hst : (bif isO (nm h.1.1).2 ci && Nat.blt h.1.1 nmN then sNx (pc + 3) lo (.inr (.inr (.inl (nm h.1.1))) :: st) (alc h (fcn ci)) else none) = some (.inl (pc', lo', st', h'))) (kk : GO p l e R s m args below meth c base D tc adK b0 y L0 n0 c0 k0 Q pc' lo' st' h') : GO p l e R s m args below meth c base D tc adK b0 y L0 n0 c0 k0 Q pc lo st h := by
  obtain ⟨hx, hb, hml, hown, hret, hlk, hini, hy, hRf, hRl⟩ := F
  cases hbb : (isO (nm h.1.1).2 ci && Nat.blt h.1.1 nmN) with
  | false => rw [hbb] at hst; cases hst
  | true =>
    rw [hbb] at hst
    simp only [Bool.and_eq_true] at hbb
    obtain ⟨rfl, rfl, rfl, rfl⟩ := sNx_inj hst
    have hlt : h.1.1 < 216 := Nat.le_of_ble_eq_true hbb.2
    rcases ck_all (mcx y) (mcx_lt hy) _ (fnd_mem hf) with ⟨-, f1, f2, f3, f4⟩ | ⟨q, -⟩
    · dsimp only at f1 f2 f3 f4
      obtain ⟨k1, k2, k3, k4, k5, k6, k7⟩ := kf_all ci f1
      intro L H locs cells slots ls a1 a2 a3 a4 a5 a6 a7 a8 a9 b1
      have hcap1 : h.1.2.1 + 1 ≤ R.cells + c0 := hcap.1
      have hcap2 : h.1.2.2 + fcn ci ≤ R.slots + k0 := hcap.2
      refine va_new (fs := (List.range (fcn ci)).map (fun j => defaultValue (tyf ci j))) hx hb (Ts := u_ws (cN9 ci) (cT9 ci) (cS9 ci)) (lays_good k1 W0.1) (fun _ h => h) (tyf ci) k2 hown (W0.1.w f2) (W0.1.w f3) (W0.1.w f4) W0.1.2 a1.1 a1.2.1 a2 (va_hA W0.2.2.2.1) k7 (fun j hj => ?_) (by omega) (by rw [k4]; omega) dec (fun q H1 hP hD hS => ?_)
      · rw [k4] at hj
        simp [vp_V, hj]
      · rw [k4]
        refine go_new kk hlt (RL.push a1 hlt ?_ hP hD) hS a3 a4 a5 a6 a7 a8 a9 b1
        rw [celE_obj (isO_KD hbb.1)]
        congr 2
        refine List.map_congr_left fun j hj => ?_
        have hj' : j < cS9 ci := by rw [k4]; exact List.mem_range.mp hj
        obtain ⟨e1, e2⟩ := k6 j hj'
        have g0 : hG (alc h (fcn ci)) (nm h.1.1).1 (nm h.1.1).2 j = 0 := by rw [hG_alc, u2_at]
        have q0 : hQ (alc h (fcn ci)) (nm h.1.1).1 (nm h.1.1).2 j = 0 := by rw [hQ_alc, u2_at]
        have r0 : hR (alc h (fcn ci)) (nm h.1.1).1 (nm h.1.1).2 j = none := by rw [hR_alc, u2_at]
        rcases (show ftc ci j = 0 ∨ ftc ci j = 1 ∨ ftc ci j = 2 by omega) with q | q | q
        · rw [fV_0 q, tc_int (ty := tyf ci j) (by rw [e1, q]), g0]; rfl
        · rw [fV_1 q, tc_long (ty := tyf ci j) (by rw [e1, q]), q0]; rfl
        · rw [fV_2 (by rw [q]; omega) (by rw [q]; omega), r0]
          have h2 : tcF (tyf ci j) = 2 := by rw [e1, q]
          cases hty : tyf ci j <;> rw [hty] at h2 <;> first | rfl | (cases h2)
    · cases q
theorem go_newa (F : FX p R s m meth c y) (W0 : WX s args D tc base b0 sc adK) {t : ArrayType} (dec : decode (mByt y) pc = .ok (.newarray t, 2)) (hcap : h'.1.2.1 ≤ R.cells + c0 ∧ h'.1.2.2 ≤ R.slots + k0) {K : List (Nat × Instr × Nat)} {i0 : Nat}
    (hst : stp sc y K (.newarray t) (pc + 2) i0 lo st h = some (.inl (pc', lo', st', h'))) (kk : GO p l e R s m args below meth c base D tc adK b0 y L0 n0 c0 k0 Q pc' lo' st' h') : GO p l e R s m args below meth c base D tc adK b0 y L0 n0 c0 k0 Q pc lo st h := by
  obtain ⟨hx, hb, hml, hown, hret, hlk, hini, hy, hRf, hRl⟩ := F
  unfold stp at hst
  dsimp only at hst
  split at hst
  · rename_i n st
    split at hst
    · rename_i q kn hq
      cases hbb : (Nat.beq q (aty t) && Nat.blt q 4 && !(decide (n < 0)) && Nat.beq n.toNatClampNeg kn && Nat.blt h.1.1 nmN) with
      | false => rw [hbb] at hst; cases hst
      | true =>
        rw [hbb] at hst
        simp only [Bool.and_eq_true, Bool.not_eq_true', decide_eq_false_iff_not] at hbb
        obtain ⟨⟨⟨⟨g1, g2⟩, g3⟩, g4⟩, g5⟩ := hbb
        obtain ⟨rfl, rfl, rfl, rfl⟩ := sNx_inj hst
        have hlt : h.1.1 < 216 := Nat.le_of_ble_eq_true g5
        have hq1 := Nat.eq_of_beq_eq_true g1
        have hq4 : q < 4 := Nat.le_of_ble_eq_true g2
        have hnk := Nat.eq_of_beq_eq_true g4
        have hsm := (KDA_small hq).2
        intro L H locs cells slots ls a1 a2 a3 a4 a5 a6 a7 a8 a9 b1
        have hcap1 : h.1.2.1 + 1 ≤ R.cells + c0 := hcap.1
        have hcap2 : h.1.2.2 + kn ≤ R.slots + k0 := hcap.2
        have a6' := ok_tl a6
        have g0 : hG (alc h kn) (nm h.1.1).1 (nm h.1.1).2 = fun _ => 0 := funext fun j => by rw [hG_alc, u2_at]
        have q0 : hQ (alc h kn) (nm h.1.1).1 (nm h.1.1).2 = fun _ => 0 := funext fun j => by rw [hQ_alc, u2_at]
        have fin : ∀ (q9 : Nat) (cA : ClassId) (H1 : Heap) (a0 : vp_A), arV (nxL L h.1.1 q9) (alc h kn) (nm h.1.1).1 (nm h.1.1).2 q kn = a0 → va_K D cls9 (tys9 tc ++ [(cA, tyT q)]) s → va_P D cls9 (wsE tc L h ++ [(q9, .inl (cA, a0))]) H1 → va_D (fun q => base ≤ q) (wsE tc L h ++ [(q9, .inl (cA, a0))]) → va_S (fun q => base ≤ q) s.heap H1 locs →
            W p l e R s m args below meth c H1 locs (cells + 1) (slots + kn) Q (F0 m (pc + 2) ls (.ref q9 :: st.map (avV L))) := by
          intro q9 cA H1 a0 ha hK2 hP hD hS
          have e9 : cA = tc q := ra_find (hK2.2 5 (cA, tyT q) rfl).2 (W0.1.2.2 q (tc q, tyT q) (tys_at (by omega))).2
          subst e9
          refine go_new kk hlt (RL.push a1 hlt ?_ hP hD) hS a3 a4 a5 a6' a7 a8 a9 b1
          rw [celE_arr (isA_KD hq), ha]
        cases t with
        | int =>
          have e0 : q = 0 := hq1
          subst e0
          refine va_newa (atype := .int) (ty := .int) (a0 := (kn, .inl (fun _ => 0))) hx hb (W0.1.w w_arr.1) rfl W0.1.2 a1.1 a1.2.1 a2 (va_hA W0.2.2.2.1) (fun _ => rfl) g3 hnk ?_ (by omega) (by omega) dec (fun q9 cA H1 => fin q9 cA H1 _ (by simp only [arV, g0]))
          show kn * 4 ≤ _; omega
        | byte =>
          have e0 : q = 1 := hq1
          subst e0
          refine va_newa (atype := .byte) (ty := .byte) (a0 := (kn, .inl (fun _ => 0))) hx hb (W0.1.w w_arr.2.1) rfl W0.1.2 a1.1 a1.2.1 a2 (va_hA W0.2.2.2.1) (fun _ => rfl) g3 hnk ?_ (by omega) (by omega) dec (fun q9 cA H1 => fin q9 cA H1 _ (by simp only [arV, g0]))
          show kn * 1 ≤ _; omega
        | boolean =>
          have e0 : q = 2 := hq1
          subst e0
          refine va_newa (atype := .boolean) (ty := .boolean) (a0 := (kn, .inl (fun _ => 0))) hx hb (W0.1.w w_arr.2.2.1) rfl W0.1.2 a1.1 a1.2.1 a2 (va_hA W0.2.2.2.1) (fun _ => rfl) g3 hnk ?_ (by omega) (by omega) dec (fun q9 cA H1 => fin q9 cA H1 _ (by simp only [arV, g0]))
          show kn * 1 ≤ _; omega
        | long =>
          have e0 : q = 3 := hq1
          subst e0
          refine va_newa (atype := .long) (ty := .long) (a0 := (kn, .inr (.inl (fun _ => 0)))) hx hb (W0.1.w w_arr.2.2.2) rfl W0.1.2 a1.1 a1.2.1 a2 (va_hA W0.2.2.2.1) (fun _ => rfl) g3 hnk ?_ (by omega) (by omega) dec (fun q9 cA H1 => fin q9 cA H1 _ (by simp only [arV, q0]))
          show kn * 8 ≤ _; omega
        | _ => exact absurd hq1 (by simp only [aty]; omega)
    · cases hst
  · cases hst
theorem cap_now {cells slots : Nat} (a7 : cells + c0 = h.1.2.1) (a8 : slots + k0 = h.1.2.2) (hcap : h.1.2.1 ≤ R.cells + c0 ∧ h.1.2.2 ≤ R.slots + k0) : cells ≤ R.cells ∧ slots ≤ R.slots := by omega
theorem go_cpy (F : FX p R s m meth c y) (W0 : WX s args D tc base b0 sc adK) {wi : Nat} {mm : Nat × Nat} (hf : fnd (mTL.getD (mcx y) []) k = some (505, mm)) (dec : decode (mByt y) pc = .ok (.invokestatic k, 3))
    (hst : (match st with
        | .inl n :: .inl dp :: .inr (.inr (.inl (i, c))) :: .inl sp :: .inr (.inr (.inl (j, d))) :: st => match isA d, isA c with
          | some (0, n0), some (0, n1) => bif Nat.ble (cats st) 8 && !(decide (sp < 0)) && !(decide (dp < 0)) && !(decide (n < 0)) && Nat.ble (sp.toNatClampNeg + n.toNatClampNeg) n0 && Nat.ble (dp.toNatClampNeg + n.toNatClampNeg) n1 then
              sNx (pc + 3) lo st (sW h i c (va_cpy (hG h j d) (hG h i c) sp.toNatClampNeg dp.toNatClampNeg n.toNatClampNeg)) else none
          | _, _ => none
        | _ => none) = some (.inl (pc', lo', st', h'))) (kk : GO p l e R s m args below meth c base D tc adK b0 y L0 n0 c0 k0 Q pc' lo' st' h') : GO p l e R s m args below meth c base D tc adK b0 y L0 n0 c0 k0 Q pc lo st h := by
  obtain ⟨hx, hb, hml, hown, hret, hlk, hini, hy, hRf, hRl⟩ := F
  split at hst
  · rename_i n dp i cc sp j d st
    split at hst
    · rename_i m0 m1 hq0 hq1
      cases hbb : (Nat.ble (cats st) 8 && !(decide (sp < 0)) && !(decide (dp < 0)) && !(decide (n < 0)) && Nat.ble (sp.toNatClampNeg + n.toNatClampNeg) m0 && Nat.ble (dp.toNatClampNeg + n.toNatClampNeg) m1) with
      | false => rw [hbb] at hst; cases hst
      | true =>
        rw [hbb] at hst
        simp only [Bool.and_eq_true, Bool.not_eq_true', decide_eq_false_iff_not] at hbb
        obtain ⟨⟨⟨⟨⟨g1, g2⟩, g3⟩, g4⟩, g5⟩, g6⟩ := hbb
        obtain ⟨rfl, rfl, rfl, rfl⟩ := sNx_inj hst
        have hlink : (Cond.methodLink (cnm (mcx y)) k arraycopyName).before args s = true := by
          rcases mk_all (mcx y) (mcx_lt hy) _ (fnd_mem hf) with ⟨q, -⟩ | ⟨q, -⟩ | ⟨-, -, q⟩ | q
          · exact absurd q (show ¬ 505 < 252 by decide)
          · exact absurd q (show ¬ 505 < 252 by decide)
          · exact W0.1.w q
          · exact absurd q (show ¬ 600 ≤ 505 by decide)
        intro L H locs cells slots ls a1 a2 a3 a4 a5 a6 a7 a8 a9 b1
        obtain ⟨j1, hj1, hn1, hw1⟩ := arr_ws (tc := tc) (L := L) hq1 (arr_okP (n0 := 0) hq1 (ok_hd (ok_tl (ok_tl a6))))
        obtain ⟨j0, hj0, hn0, hw0⟩ := arr_ws (tc := tc) (L := L) hq0 (arr_okP (n0 := 0) hq0 (ok_hd (ok_tl (ok_tl (ok_tl (ok_tl a6))))))
        have a6' := ok_tl (ok_tl (ok_tl (ok_tl (ok_tl a6))))
        have hsum := cats_le (L := L) g1
        refine va_copyi hx hb (hml.trans a3.1.symm) hown hlink (W0.1.w w_cpy.1) (W0.1.w w_cpy.2.1) (W0.1.w w_cpy.2.2) W0.1.2 a1.1 a1.2.1 a2 j0 j1 0 0 (n0 := m0) (n1 := m1) (f := hG h j d) (g := hG h i cc) (ty := .int) hw0 hw1 rfl rfl rfl g2 g3 g4 (Nat.le_of_ble_eq_true g5) (Nat.le_of_ble_eq_true g6) (fun _ _ => rfl) (by omega) (Nat.le_trans (Nat.add_le_add hsum (Nat.le_refl _)) (Nat.le_trans (show 8 + (nativeFrameWords "java/lang/System" "arraycopy" 5 + 11) ≤ 200 by decide +kernel) hRl)) dec (fun H1 locs1 hP hD hS => ?_)
        refine kk L H1 locs1 cells slots ls (RL.set a1 hj1 (h' := sW h i cc (va_cpy (hG h j d) (hG h i cc) sp.toNatClampNeg dp.toNatClampNeg n.toNatClampNeg)) rfl (ev := .inl (tc 0, m1, .inl (va_cpy (hG h j d) (hG h i cc) sp.toNatClampNeg dp.toNatClampNeg n.toNatClampNeg))) ?_ ?_ a1.2.2.2.1 (by rw [hn1]; exact hP) (by rw [hn1]; exact hD)) hS a3 a4 a5 a6' a7 a8 a9 b1
        · rw [hn1, celE_arr (isA_KD hq1)]
          have e1 : hG (sW h i cc (va_cpy (hG h j d) (hG h i cc) sp.toNatClampNeg dp.toNatClampNeg n.toNatClampNeg)) i cc = va_cpy (hG h j d) (hG h i cc) sp.toNatClampNeg dp.toNatClampNeg n.toNatClampNeg := funext fun k => u2_at k
          simp only [arV, e1]
        · rw [hn1]
          intro i' c' hne
          exact celE_congr (fun k => u2_ne hne k) (fun _ => rfl) (fun _ => rfl)
    · cases hst
  · cases hst
theorem go_newq (F : FX p R s m meth c y) (W0 : WX s args D tc base b0 sc adK) (dec : decode (mByt y) pc = .ok (.anewarray k, 3)) (hw : mcx y = 4 → Cond.classLink (cnm (mcx y)) k "MountSpaces$Mounts" ∈ lw_tbl) (hcap : h'.1.2.1 ≤ R.cells + c0 ∧ h'.1.2.2 ≤ R.slots + k0) {K : List (Nat × Instr × Nat)} {i0 : Nat}
    (hst : stp sc y K (.anewarray k) (pc + 3) i0 lo st h = some (.inl (pc', lo', st', h'))) (kk : GO p l e R s m args below meth c base D tc adK b0 y L0 n0 c0 k0 Q pc' lo' st' h') : GO p l e R s m args below meth c base D tc adK b0 y L0 n0 c0 k0 Q pc lo st h := by
  obtain ⟨hx, hb, hml, hown, hret, hlk, hini, hy, hRf, hRl⟩ := F
  unfold stp at hst
  dsimp only at hst
  split at hst
  · rename_i n st
    split at hst
    · rename_i q kn hq
      cases hbb : (Nat.beq q 4 && Nat.beq (mcx y) 4 && !(decide (n < 0)) && Nat.beq n.toNatClampNeg kn && Nat.blt h.1.1 nmN) with
      | false => rw [hbb] at hst; cases hst
      | true =>
        rw [hbb] at hst
        simp only [Bool.and_eq_true, Bool.not_eq_true', decide_eq_false_iff_not] at hbb
        obtain ⟨⟨⟨⟨g1, g2⟩, g3⟩, g4⟩, g5⟩ := hbb
        obtain ⟨rfl, rfl, rfl, rfl⟩ := sNx_inj hst
        have hlt : h.1.1 < 216 := Nat.le_of_ble_eq_true g5
        have hq1 := Nat.eq_of_beq_eq_true g1
        subst hq1
        have hnk := Nat.eq_of_beq_eq_true g4
        have hsm := (KDA_small hq).2
        intro L H locs cells slots ls a1 a2 a3 a4 a5 a6 a7 a8 a9 b1
        have hcap1 : h.1.2.1 + 1 ≤ R.cells + c0 := hcap.1
        have hcap2 : h.1.2.2 + kn ≤ R.slots + k0 := hcap.2
        have a6' := ok_tl a6
        have r0 : ∀ j, hR (alc h kn) (nm h.1.1).1 (nm h.1.1).2 j = none := fun j => by rw [hR_alc, u2_at]
        refine va_newq hx hb hown (W0.1.w (hw (Nat.eq_of_beq_eq_true g2))) W0.2.2.2.2.2 W0.1.2 a1.1 a1.2.1 a2 (va_hA W0.2.2.2.1) g3 hnk (by omega) (by omega) (by omega) dec (fun q9 cA H1 hK2 hP hD hS => ?_)
        have e9 : cA = tc 4 := ra_find (hK2.2 5 (cA, tyT 4) rfl).2 (W0.1.2.2 4 (tc 4, tyT 4) rfl).2
        subst e9
        refine go_new kk hlt (RL.push a1 hlt ?_ hP hD) hS a3 a4 a5 a6' a7 a8 a9 b1
        rw [celE_arr (isA_KD hq)]
        simp only [arV, r0]
        rfl
    · cases hst
  · cases hst
end STP
end
section
/-! ONE STEP: every instruction that goes on (written by wip/whole/gen_go.py) -/
theorem anq_all : (List.range 252).all (fun y => (code9 y).all (fun e => match e.2.1 with
  | .anewarray k => !(Nat.beq (mcx y) 4) || (match fnd (cTL.getD 4 []) k with
    | some (0, ci, _, _, _) => Nat.beq ci 3
    | _ => false)
  | _ => true)) = true := by decide +kernel
theorem anq_at {y pc k np : Nat} (hy : y < 252) (h : fnd (code9 y) pc = some (.anewarray k, np)) (h4 : mcx y = 4) : Cond.classLink (cnm (mcx y)) k "MountSpaces$Mounts" ∈ lw_tbl := by
  have h1 := List.all_eq_true.mp (List.all_eq_true.mp anq_all y (List.mem_range.mpr hy)) _ (fnd_mem h)
  dsimp only at h1
  rw [h4] at h1
  have e4 : (!Nat.beq 4 4) = false := rfl
  rw [e4, Bool.false_or] at h1
  split at h1
  · rename_i ci a1 a2 a3 hf
    have hci := Nat.eq_of_beq_eq_true h1
    subst hci
    rcases ck_all 4 (by decide) _ (fnd_mem hf) with ⟨-, -, f2, -, -⟩ | ⟨q, -⟩
    · rw [h4]; exact f2
    · cases q
  · cases h1
section STPGO
variable {p : Program} {l : Launch} {e : Env} {R : Room} {s : State} {m : MethodId} {args : Array Value} {below : List Frame} {meth : Method} {c : Code} {base : Nat} {D : va_G} {tc : Nat → ClassId} {adK : Nat → Nat} {b0 y : Nat} {L0 : AD} {n0 c0 k0 : Nat} {Q : State → Prop} {pc np pc' k : Nat} {lo st lo' st' : List AV} {h h' : AH} {sc : SC}
theorem go_iinc (F : FX p R s m meth c y) {n : Int} (dec : decode (mByt y) pc = .ok (.iinc k n, 3)) {K : List (Nat × Instr × Nat)} {i0 : Nat}
    (hst : stp sc y K (.iinc k n) (pc + 3) i0 lo st h = some (.inl (pc', lo', st', h'))) (kk : GO p l e R s m args below meth c base D tc adK b0 y L0 n0 c0 k0 Q pc' lo' st' h') : GO p l e R s m args below meth c base D tc adK b0 y L0 n0 c0 k0 Q pc lo st h := by
  have hx := F.1
  have hb := F.2.1
  unfold stp at hst
  dsimp only at hst
  split at hst
  · rename_i x hlo
    cases hn : nlo lo k with
    | false => rw [hn] at hst; cases hst
    | true =>
      rw [hn] at hst
      obtain ⟨rfl, rfl, rfl, rfl⟩ := sNx_inj hst
      intro L H locs cells slots ls a1 a2 a3 a4 a5 a6 a7 a8 a9 b1
      have hm : (k, Value.int x) ∈ rlo L 0 lo := rlo_mem.mpr ⟨k, vI x, by omega, hlo, (by intro q; cases q), rfl⟩
      obtain ⟨k9, hk9⟩ := List.mem_iff_getElem?.mp hm
      have hlt : k < lo.length := (List.getElem?_eq_some_iff.mp hlo).1
      refine lv_iinc hx hb dec a3 hk9 rfl (by rw [← a4]; exact hlt) rfl (fun ls' hl' => ?_)
      exact kk L H locs cells slots ls' a1 a2 (lv_mono hl' (rlo_set1 (v := vI (x + Int32.ofInt n)) hn)) (by rw [List.length_set]; exact a4) (ok_set trivial a5) a6 a7 a8 a9 b1
  · cases hst
theorem go_dup (F : FX p R s m meth c y) (dec : decode (mByt y) pc = .ok (.dup, 1)) {K : List (Nat × Instr × Nat)} {i0 : Nat}
    (hst : stp sc y K .dup (pc + 1) i0 lo st h = some (.inl (pc', lo', st', h'))) (kk : GO p l e R s m args below meth c base D tc adK b0 y L0 n0 c0 k0 Q pc' lo' st' h') : GO p l e R s m args below meth c base D tc adK b0 y L0 n0 c0 k0 Q pc lo st h := by
  have hx := F.1
  have hb := F.2.1
  unfold stp at hst
  dsimp only at hst
  split at hst
  · obtain ⟨rfl, rfl, rfl, rfl⟩ := sNx_inj hst
    intro L H locs cells slots ls a1 a2 a3 a4 a5 a6 a7 a8 a9 b1
    exact lv_dup hx hb dec rfl (kk L H locs cells slots ls a1 a2 a3 a4 a5 (ok_cons (ok_hd a6) a6) a7 a8 a9 b1)
  · obtain ⟨rfl, rfl, rfl, rfl⟩ := sNx_inj hst
    intro L H locs cells slots ls a1 a2 a3 a4 a5 a6 a7 a8 a9 b1
    exact lv_dup hx hb dec rfl (kk L H locs cells slots ls a1 a2 a3 a4 a5 (ok_cons (ok_hd a6) a6) a7 a8 a9 b1)
  · cases hst
theorem go_dup2 (F : FX p R s m meth c y) (dec : decode (mByt y) pc = .ok (.dup2, 1)) {K : List (Nat × Instr × Nat)} {i0 : Nat}
    (hst : stp sc y K .dup2 (pc + 1) i0 lo st h = some (.inl (pc', lo', st', h'))) (kk : GO p l e R s m args below meth c base D tc adK b0 y L0 n0 c0 k0 Q pc' lo' st' h') : GO p l e R s m args below meth c base D tc adK b0 y L0 n0 c0 k0 Q pc lo st h := by
  have hx := F.1
  have hb := F.2.1
  unfold stp at hst
  dsimp only at hst
  split at hst
  · obtain ⟨rfl, rfl, rfl, rfl⟩ := sNx_inj hst
    intro L H locs cells slots ls a1 a2 a3 a4 a5 a6 a7 a8 a9 b1
    exact lv_dup2_11 hx hb dec rfl rfl (kk L H locs cells slots ls a1 a2 a3 a4 a5 (ok_cons (ok_hd a6) (ok_cons (ok_hd (ok_tl a6)) a6)) a7 a8 a9 b1)
  · cases hst
theorem go_pop (F : FX p R s m meth c y) (dec : decode (mByt y) pc = .ok (.pop, 1)) {K : List (Nat × Instr × Nat)} {i0 : Nat}
    (hst : stp sc y K .pop (pc + 1) i0 lo st h = some (.inl (pc', lo', st', h'))) (kk : GO p l e R s m args below meth c base D tc adK b0 y L0 n0 c0 k0 Q pc' lo' st' h') : GO p l e R s m args below meth c base D tc adK b0 y L0 n0 c0 k0 Q pc lo st h := by
  have hx := F.1
  have hb := F.2.1
  unfold stp at hst
  dsimp only at hst
  split at hst
  · obtain ⟨rfl, rfl, rfl, rfl⟩ := sNx_inj hst
    intro L H locs cells slots ls a1 a2 a3 a4 a5 a6 a7 a8 a9 b1
    exact lv_pop hx hb dec rfl (kk L H locs cells slots ls a1 a2 a3 a4 a5 (ok_tl a6) a7 a8 a9 b1)
  · obtain ⟨rfl, rfl, rfl, rfl⟩ := sNx_inj hst
    intro L H locs cells slots ls a1 a2 a3 a4 a5 a6 a7 a8 a9 b1
    exact lv_pop hx hb dec rfl (kk L H locs cells slots ls a1 a2 a3 a4 a5 (ok_tl a6) a7 a8 a9 b1)
  · cases hst
theorem go_lcmp (F : FX p R s m meth c y) (dec : decode (mByt y) pc = .ok (.lcmp, 1)) {K : List (Nat × Instr × Nat)} {i0 : Nat}
    (hst : stp sc y K .lcmp (pc + 1) i0 lo st h = some (.inl (pc', lo', st', h'))) (kk : GO p l e R s m args below meth c base D tc adK b0 y L0 n0 c0 k0 Q pc' lo' st' h') : GO p l e R s m args below meth c base D tc adK b0 y L0 n0 c0 k0 Q pc lo st h := by
  have hx := F.1
  have hb := F.2.1
  unfold stp at hst
  dsimp only at hst
  split at hst
  · obtain ⟨rfl, rfl, rfl, rfl⟩ := sNx_inj hst
    intro L H locs cells slots ls a1 a2 a3 a4 a5 a6 a7 a8 a9 b1
    exact W.lcmp hx hb dec (kk L H locs cells slots ls a1 a2 a3 a4 a5 (ok_cons trivial (ok_tl (ok_tl a6))) a7 a8 a9 b1)
  · cases hst
theorem go_i2l (F : FX p R s m meth c y) (dec : decode (mByt y) pc = .ok (.i2l, 1)) {K : List (Nat × Instr × Nat)} {i0 : Nat}
    (hst : stp sc y K .i2l (pc + 1) i0 lo st h = some (.inl (pc', lo', st', h'))) (kk : GO p l e R s m args below meth c base D tc adK b0 y L0 n0 c0 k0 Q pc' lo' st' h') : GO p l e R s m args below meth c base D tc adK b0 y L0 n0 c0 k0 Q pc lo st h := by
  have hx := F.1
  have hb := F.2.1
  unfold stp at hst
  dsimp only at hst
  split at hst
  · obtain ⟨rfl, rfl, rfl, rfl⟩ := sNx_inj hst
    intro L H locs cells slots ls a1 a2 a3 a4 a5 a6 a7 a8 a9 b1
    exact lv_i2l hx hb dec rfl (kk L H locs cells slots ls a1 a2 a3 a4 a5 (ok_cons trivial (ok_tl a6)) a7 a8 a9 b1)
  · cases hst
theorem go_i2b (F : FX p R s m meth c y) (dec : decode (mByt y) pc = .ok (.i2b, 1)) {K : List (Nat × Instr × Nat)} {i0 : Nat}
    (hst : stp sc y K .i2b (pc + 1) i0 lo st h = some (.inl (pc', lo', st', h'))) (kk : GO p l e R s m args below meth c base D tc adK b0 y L0 n0 c0 k0 Q pc' lo' st' h') : GO p l e R s m args below meth c base D tc adK b0 y L0 n0 c0 k0 Q pc lo st h := by
  have hx := F.1
  have hb := F.2.1
  unfold stp at hst
  dsimp only at hst
  split at hst
  · obtain ⟨rfl, rfl, rfl, rfl⟩ := sNx_inj hst
    intro L H locs cells slots ls a1 a2 a3 a4 a5 a6 a7 a8 a9 b1
    exact lv_i2b hx hb dec rfl (kk L H locs cells slots ls a1 a2 a3 a4 a5 (ok_cons trivial (ok_tl a6)) a7 a8 a9 b1)
  · cases hst
theorem go_null (F : FX p R s m meth c y) {t t0 : Int} (dec : decode (mByt y) pc = .ok (.ifnull t0, 3)) {K : List (Nat × Instr × Nat)} {i0 : Nat}
    (hst : stp sc y K (.ifnull t) (pc + 3) i0 lo st h = some (.inl (pc', lo', st', h'))) (kk : GO p l e R s m args below meth c base D tc adK b0 y L0 n0 c0 k0 Q pc' lo' st' h') : GO p l e R s m args below meth c base D tc adK b0 y L0 n0 c0 k0 Q pc lo st h := by
  have hx := F.1
  have hb := F.2.1
  unfold stp at hst
  dsimp only at hst
  split at hst
  · obtain ⟨rfl, rfl, rfl, rfl⟩ := sNx_inj hst
    intro L H locs cells slots ls a1 a2 a3 a4 a5 a6 a7 a8 a9 b1
    exact lv_ifnull hx hb dec (kk L H locs cells slots ls a1 a2 a3 a4 a5 (ok_tl a6) a7 a8 a9 b1)
  · cases hst
theorem go_lald (F : FX p R s m meth c y) (W0 : WX s args D tc base b0 sc adK) (dec : decode (mByt y) pc = .ok (.laload, 1)) {K : List (Nat × Instr × Nat)} {i0 : Nat}
    (hst : stp sc y K .laload (pc + 1) i0 lo st h = some (.inl (pc', lo', st', h'))) (kk : GO p l e R s m args below meth c base D tc adK b0 y L0 n0 c0 k0 Q pc' lo' st' h') : GO p l e R s m args below meth c base D tc adK b0 y L0 n0 c0 k0 Q pc lo st h := by
  have hx := F.1
  have hb := F.2.1
  unfold stp at hst
  dsimp only at hst
  split at hst
  · rename_i x i cc st
    split at hst
    · rename_i q n hq
      cases hb9 : (Nat.beq q 3 && inb x n) with
      | false => rw [hb9] at hst; cases hst
      | true =>
        rw [hb9] at hst
        simp only [Bool.and_eq_true] at hb9
        have hq3 := Nat.eq_of_beq_eq_true hb9.1
        subst hq3
        obtain ⟨rfl, rfl, rfl, rfl⟩ := sNx_inj hst
        intro L H locs cells slots ls a1 a2 a3 a4 a5 a6 a7 a8 a9 b1
        obtain ⟨j, hj, hnm, hws⟩ := arr_ws (tc := tc) (L := L) hq (arr_okP (n0 := 0) hq (ok_hd (ok_tl a6)))
        exact va_lald hx hb W0.1.2 a1.1 j 3 (f := hQ h i cc) hws rfl (inb_in hb9.2) dec (kk L H locs cells slots ls a1 a2 a3 a4 a5 (ok_cons trivial (ok_tl (ok_tl a6))) a7 a8 a9 b1)
    · cases hst
  · cases hst
theorem upd_u3Q {f : Nat → Nat → Nat → Int64} {i c k : Nat} {v : Int64} : u3 f i c k v i c = vp_updL (f i c) k v := by
  funext j
  rw [u3_at]
  rfl
theorem go_last (F : FX p R s m meth c y) (W0 : WX s args D tc base b0 sc adK) (dec : decode (mByt y) pc = .ok (.lastore, 1)) {K : List (Nat × Instr × Nat)} {i0 : Nat}
    (hst : stp sc y K .lastore (pc + 1) i0 lo st h = some (.inl (pc', lo', st', h'))) (kk : GO p l e R s m args below meth c base D tc adK b0 y L0 n0 c0 k0 Q pc' lo' st' h') : GO p l e R s m args below meth c base D tc adK b0 y L0 n0 c0 k0 Q pc lo st h := by
  have hx := F.1
  have hb := F.2.1
  unfold stp at hst
  dsimp only at hst
  split at hst
  · rename_i w x i cc st
    split at hst
    · rename_i q n hq
      cases hb9 : (Nat.beq q 3 && inb x n) with
      | false => rw [hb9] at hst; cases hst
      | true =>
        rw [hb9] at hst
        simp only [Bool.and_eq_true] at hb9
        have hq3 := Nat.eq_of_beq_eq_true hb9.1
        subst hq3
        obtain ⟨rfl, rfl, rfl, rfl⟩ := sNx_inj hst
        intro L H locs cells slots ls a1 a2 a3 a4 a5 a6 a7 a8 a9 b1
        obtain ⟨j, hj, hnm, hws⟩ := arr_ws (tc := tc) (L := L) hq (arr_okP (n0 := 0) hq (ok_hd (ok_tl (ok_tl a6))))
        refine va_last hx hb W0.1.2 a1.1 a1.2.1 a2 j 3 (f := hQ h i cc) hws rfl (inb_in hb9.2) dec (fun H1 locs1 hP hD hS => ?_)
        refine kk L H1 locs1 cells slots ls (RL.set a1 hj (h' := sQ h i cc x.toNatClampNeg w) rfl (ev := .inl (tc 3, n, .inr (.inl (vp_updL (hQ h i cc) x.toNatClampNeg w)))) ?_ ?_ a1.2.2.2.1 (by rw [hnm]; exact hP) (by rw [hnm]; exact hD)) hS a3 a4 a5 (ok_tl (ok_tl (ok_tl a6))) a7 a8 a9 b1
        · rw [hnm, celE_arr (isA_KD hq)]
          simp only [arV, hQ, sQ, upd_u3Q]
        · rw [hnm]
          intro i' c' hne
          exact celE_congr (fun _ => rfl) (fun k => u3_ne hne k) (fun _ => rfl)
    · cases hst
  · cases hst
theorem go_aald (F : FX p R s m meth c y) (W0 : WX s args D tc base b0 sc adK) (dec : decode (mByt y) pc = .ok (.aaload, 1)) {K : List (Nat × Instr × Nat)} {i0 : Nat}
    (hst : stp sc y K .aaload (pc + 1) i0 lo st h = some (.inl (pc', lo', st', h'))) (kk : GO p l e R s m args below meth c base D tc adK b0 y L0 n0 c0 k0 Q pc' lo' st' h') : GO p l e R s m args below meth c base D tc adK b0 y L0 n0 c0 k0 Q pc lo st h := by
  have hx := F.1
  have hb := F.2.1
  unfold stp at hst
  dsimp only at hst
  split at hst
  · rename_i x i cc st
    split at hst
    · rename_i q n hq
      cases hb9 : (Nat.beq q 4 && inb x n) with
      | false => rw [hb9] at hst; cases hst
      | true =>
        rw [hb9] at hst
        dsimp only [cond_true] at hst
        simp only [Bool.and_eq_true] at hb9
        have hq3 := Nat.eq_of_beq_eq_true hb9.1
        subst hq3
        split at hst
        · rename_i pr hpr
          obtain ⟨rfl, rfl, rfl, rfl⟩ := sNx_inj hst
          intro L H locs cells slots ls a1 a2 a3 a4 a5 a6 a7 a8 a9 b1
          obtain ⟨j, hj, hnm, hws⟩ := arr_ws (tc := tc) (L := L) hq (arr_okP (n0 := 0) hq (ok_hd (ok_tl a6)))
          have h9 := kk L H locs cells slots ls a1 a2 a3 a4 a5 (ok_cons (v := .inr (.inr (.inl pr))) (Or.inl (a1.2.2.2.1 j hj _ pr (by rw [hnm]; exact hpr))) (ok_tl (ok_tl a6))) a7 a8 a9 b1
          refine va_aldq hx hb W0.1.2 a1.1 j 4 (f := fun j => (hR h i cc j).map fun p => L p.1 p.2) (C := "MountSpaces$Mounts") hws rfl (inb_in hb9.2) dec ?_
          rw [hpr]
          exact h9
        · cases hst
    · cases hst
  · cases hst
theorem u3_up {L : AD} {f : Nat → Nat → Nat → Option (Nat × Nat)} {i c k : Nat} {v : Nat × Nat} : (fun j => (u3 f i c k (some v) i c j).map fun p => L p.1 p.2) = va_up (fun j => (f i c j).map fun p => L p.1 p.2) k (some (L v.1 v.2)) := by
  funext j
  rw [u3_at]
  unfold va_up
  by_cases hj : j = k
  · rw [if_pos hj, if_pos hj]; rfl
  · rw [if_neg hj, if_neg hj]
theorem go_aast (F : FX p R s m meth c y) (W0 : WX s args D tc base b0 sc adK) (dec : decode (mByt y) pc = .ok (.aastore, 1)) {K : List (Nat × Instr × Nat)} {i0 : Nat}
    (hst : stp sc y K .aastore (pc + 1) i0 lo st h = some (.inl (pc', lo', st', h'))) (kk : GO p l e R s m args below meth c base D tc adK b0 y L0 n0 c0 k0 Q pc' lo' st' h') : GO p l e R s m args below meth c base D tc adK b0 y L0 n0 c0 k0 Q pc lo st h := by
  have hx := F.1
  have hb := F.2.1
  unfold stp at hst
  dsimp only at hst
  split at hst
  · rename_i pr x i cc st
    split at hst
    · rename_i q n hq
      cases hb9 : (Nat.beq q 4 && inb x n && isO pr.2 3) with
      | false => rw [hb9] at hst; cases hst
      | true =>
        rw [hb9] at hst
        simp only [Bool.and_eq_true] at hb9
        obtain ⟨⟨g1, g2⟩, g3⟩ := hb9
        have hq3 := Nat.eq_of_beq_eq_true g1
        subst hq3
        obtain ⟨rfl, rfl, rfl, rfl⟩ := sNx_inj hst
        intro L H locs cells slots ls a1 a2 a3 a4 a5 a6 a7 a8 a9 b1
        obtain ⟨j, hj, hnm, hws⟩ := arr_ws (tc := tc) (L := L) hq (arr_okP (n0 := 0) hq (ok_hd (ok_tl (ok_tl a6))))
        have hpk : okP h.1.1 pr := (ok_hd a6 : okA h.1.1 pr).P (KD_lt g3 (by omega))
        obtain ⟨jv, hjv, hnv⟩ := hpk
        have hwv := ws_at (tc := tc) (L := L) (h := h) hjv
        rw [hnv, celE_obj (isO_KD g3)] at hwv
        refine va_astq (r := cls9.getD 3 ("", jT0, 0)) hx hb W0.1.2 a1.1 a1.2.1 a2 j 4 jv 3 (f := fun j => (hR h i cc j).map fun p => L p.1 p.2) hws rfl hwv rfl (inb_in g2) dec (fun H1 locs1 hP hD hS => ?_)
        refine kk L H1 locs1 cells slots ls (RL.set a1 hj (h' := sR h i cc x.toNatClampNeg pr) rfl (ev := .inl (tc 4, n, .inr (.inr (.inr (.inr (va_up (fun j => (hR h i cc j).map fun p => L p.1 p.2) x.toNatClampNeg (some (L pr.1 pr.2)))))))) ?_ ?_ (fun j9 hj9 k q hq9 => ?_) (by rw [hnm]; exact hP) (by rw [hnm]; exact hD)) hS a3 a4 a5 (ok_tl (ok_tl (ok_tl a6))) a7 a8 a9 b1
        · rw [hnm, celE_arr (isA_KD hq)]
          show Sum.inl (tc 4, n, Sum.inr (Sum.inr (Sum.inr (Sum.inr (fun j => (u3 h.2.1 i cc x.toNatClampNeg (some pr) i cc j).map fun p => L p.1 p.2))))) = _
          rw [u3_up]
          rfl
        · rw [hnm]
          intro i' c' hne
          exact celE_congr (fun _ => rfl) (fun _ => rfl) (fun k => congrArg _ (u3_ne hne k))
        · have hq' : u3 (hR h) i cc x.toNatClampNeg (some pr) (nm j9).1 (nm j9).2 k = some q := hq9
          unfold u3 at hq'
          split at hq'
          · cases hq'; exact ⟨jv, hjv, hnv⟩
          · exact a1.2.2.2.1 j9 hj9 k q hq'
    · cases hst
  · cases hst
theorem go_alen (F : FX p R s m meth c y) (W0 : WX s args D tc base b0 sc adK) (dec : decode (mByt y) pc = .ok (.arraylength, 1)) {K : List (Nat × Instr × Nat)} {i0 : Nat}
    (hst : stp sc y K .arraylength (pc + 1) i0 lo st h = some (.inl (pc', lo', st', h'))) (kk : GO p l e R s m args below meth c base D tc adK b0 y L0 n0 c0 k0 Q pc' lo' st' h') : GO p l e R s m args below meth c base D tc adK b0 y L0 n0 c0 k0 Q pc lo st h := by
  have hx := F.1
  have hb := F.2.1
  unfold stp at hst
  dsimp only at hst
  split at hst
  · rename_i i cc st
    intro L H locs cells slots ls a1 a2 a3 a4 a5 a6 a7 a8 a9 b1
    cases h901 : Nat.beq cc 901 with
    | true =>
      rw [h901] at hst
      dsimp only [cond_true] at hst
      obtain ⟨rfl, rfl, rfl, rfl⟩ := sNx_inj hst
      have hcc := Nat.eq_of_beq_eq_true h901
      subst hcc
      have hi : i = 0 := by
        rcases (ok_hd a6 : okA h.1.1 (i, 901)) with q | ⟨q, -⟩ | q
        · exact absurd (q.lt a1.2.2.1) (by show ¬ 901 < 91; omega)
        · exact absurd (show (901 : Nat) = 900 from q) (by decide)
        · exact (Prod.mk.inj q).1
      subst hi
      have hL : L 0 901 = b0 := a1.2.2.2.2.2
      have key := va_slen (p := p) (l := l) (e := e) (R := R) (s := s) (m := m) (args := args) (below := below) (meth := meth) (c := c) (H := H) (locs := locs) (cells := cells) (slots := slots) (Q := Q) (cc := mByt y) (pc := pc) (ls := ls) (rest := st.map (avV L)) (A := fun q => base ≤ q) (H0 := s.heap) hx hb W0.2.1 (Nat.lt_of_lt_of_le W0.2.2.1 W0.2.2.2.1) (fst_script W0.2.2.1) a2 dec (kk L H locs cells slots ls a1 a2 a3 a4 a5 (ok_cons trivial (ok_tl a6)) a7 a8 a9 b1)
      show W p l e R s m args below meth c H locs cells slots Q (F0 m pc ls (.ref (L 0 901) :: st.map (avV L)))
      rw [hL]
      exact key
    | false =>
      rw [h901] at hst
      dsimp only [cond_false] at hst
      split at hst
      · rename_i q n hq
        obtain ⟨rfl, rfl, rfl, rfl⟩ := sNx_inj hst
        obtain ⟨j, hj, hnm, hws⟩ := arr_ws (tc := tc) (L := L) hq (arr_okP (n0 := 0) hq (ok_hd a6))
        exact va_alen hx hb W0.1.2 a1.1 j q hws (tys_at (KDA_small hq).1) rfl dec (kk L H locs cells slots ls a1 a2 a3 a4 a5 (ok_cons trivial (ok_tl a6)) a7 a8 a9 b1)
      · cases hst
  · cases hst
theorem ivk_no {kd mm : Nat} {x : Nat × List AV × List AV × AH} (q : ivk kd mm lo st np h = some (.inl x)) : False := by
  unfold ivk at q
  cases hb : (Nat.blt mm 252 && Nat.beq (mkd mm) kd) with
  | false => rw [hb] at q; cases q
  | true =>
    rw [hb] at q
    dsimp only [cond_true] at q
    cases hb1 : Nat.beq kd 1 with
    | true =>
      rw [hb1] at q
      dsimp only [cond_true] at q
      cases hb2 : (Nat.ble (mna mm) st.length && Nat.ble (cats (st.drop (mna mm))) 8) with
      | true => rw [hb2] at q; cases q
      | false => rw [hb2] at q; cases q
    | false =>
      rw [hb1] at q
      dsimp only [cond_false] at q
      split at q
      · rename_i i cc rest hh
        cases hb2 : (isO cc (mcx mm) && Nat.ble (cats rest) 8) with
        | true => rw [hb2] at q; cases q
        | false => rw [hb2] at q; cases q
      · cases q
theorem mk_int {cx k q : Nat} {mm : Nat × Nat} (hc : cx < 13) (h : fnd (mTL.getD cx []) k = some (q, mm)) (h1 : 500 ≤ q) (h2 : q < 506) : Cond.methodLink (cnm cx) k (intN q) ∈ lw_tbl := by
  rcases mk_all cx hc _ (fnd_mem h) with ⟨r, -⟩ | ⟨r, -⟩ | ⟨-, -, r⟩ | r
  · exact absurd (show q < 252 from r) (by omega)
  · exact absurd (show q < 252 from r) (by omega)
  · exact r
  · exact absurd (show 600 ≤ q from r) (by omega)
theorem go_spec (F : FX p R s m meth c y) (W0 : WX s args D tc base b0 sc adK) (dec : decode (mByt y) pc = .ok (.invokespecial k, 3)) {K : List (Nat × Instr × Nat)} {i0 : Nat}
    (hst : stp sc y K (.invokespecial k) (pc + 3) i0 lo st h = some (.inl (pc', lo', st', h'))) (kk : GO p l e R s m args below meth c base D tc adK b0 y L0 n0 c0 k0 Q pc' lo' st' h') : GO p l e R s m args below meth c base D tc adK b0 y L0 n0 c0 k0 Q pc lo st h := by
  have hx := F.1
  have hb := F.2.1
  have hml := F.2.2.1
  have hy : y < 252 := F.2.2.2.2.2.2.2.1
  have hRf : 8 ≤ R.frames := F.2.2.2.2.2.2.2.2.1
  have hRl : 200 ≤ R.locals := F.2.2.2.2.2.2.2.2.2
  unfold stp at hst
  dsimp only at hst
  split at hst
  · rename_i mm w1 w2 hf
    cases h500 : Nat.beq mm 500 with
    | false => rw [h500] at hst; exact (ivk_no (lo := lo) (np := pc + 3) (h := h) hst).elim
    | true =>
      rw [h500] at hst
      dsimp only [cond_true] at hst
      have hmm := Nat.eq_of_beq_eq_true h500
      subst hmm
      split at hst
      · rename_i pr st
        cases hc : Nat.ble (cats st) 8 with
        | false => rw [hc] at hst; cases hst
        | true =>
          rw [hc] at hst
          obtain ⟨rfl, rfl, rfl, rfl⟩ := sNx_inj hst
          intro L H locs cells slots ls a1 a2 a3 a4 a5 a6 a7 a8 a9 b1
          have hsum := cats_le (L := L) hc
          refine W.objInit hx hb F.2.2.2.1 (W0.1.w (mk_int (mcx_lt hy) hf (by omega) (by omega))) (W0.1.w w_objI.1) (W0.1.w w_objI.2) (g := F0 m pc ls (.ref (L pr.1 pr.2) :: st.map (avV L))) rfl (by rw [hml]; exact a3.1) rfl dec (by omega) (by show 2 * 0 + _ + 12 ≤ _; omega) ?_
          exact W.eq (g2 := F0 m (pc + 3) ls (st.map (avV L))) rfl (kk L H locs cells slots ls a1 a2 a3 a4 a5 (ok_tl a6) a7 a8 a9 b1)
      · cases hst
  · cases hst
theorem go_stat (F : FX p R s m meth c y) (W0 : WX s args D tc base b0 sc adK) (dec : decode (mByt y) pc = .ok (.invokestatic k, 3)) (hcap : h'.1.2.1 ≤ R.cells + c0 ∧ h'.1.2.2 ≤ R.slots + k0) {K : List (Nat × Instr × Nat)} {i0 : Nat}
    (hst : stp sc y K (.invokestatic k) (pc + 3) i0 lo st h = some (.inl (pc', lo', st', h'))) (kk : GO p l e R s m args below meth c base D tc adK b0 y L0 n0 c0 k0 Q pc' lo' st' h') : GO p l e R s m args below meth c base D tc adK b0 y L0 n0 c0 k0 Q pc lo st h := by
  have hx := F.1
  have hb := F.2.1
  have hml := F.2.2.1
  have hy : y < 252 := F.2.2.2.2.2.2.2.1
  have hRf : 8 ≤ R.frames := F.2.2.2.2.2.2.2.2.1
  have hRl : 200 ≤ R.locals := F.2.2.2.2.2.2.2.2.2
  unfold stp at hst
  dsimp only at hst
  split at hst
  · rename_i mm w1 w2 hf
    cases h503 : Nat.beq mm 503 with
    | true =>
      rw [h503] at hst
      dsimp only [cond_true] at hst
      have hmm := Nat.eq_of_beq_eq_true h503
      subst hmm
      split at hst
      · rename_i y9 x9 st
        cases hc : Nat.ble (cats st) 8 with
        | false => rw [hc] at hst; cases hst
        | true =>
          rw [hc] at hst
          obtain ⟨rfl, rfl, rfl, rfl⟩ := sNx_inj hst
          intro L H locs cells slots ls a1 a2 a3 a4 a5 a6 a7 a8 a9 b1
          have hsum := cats_le (L := L) hc
          have hcp := cap_now a7 a8 hcap
          exact va_mmax hx hb (hml.trans a3.1.symm) F.2.2.2.1 (W0.1.w (mk_int (mcx_lt hy) hf (by omega) (by omega))) (W0.1.w w_max.1) (W0.1.w w_max.2.1) (W0.1.w w_max.2.2) (by omega) (by omega) hcp.1 hcp.2 dec (kk L H locs cells slots ls a1 a2 a3 a4 a5 (ok_cons trivial (ok_tl (ok_tl a6))) a7 a8 a9 b1)
      · cases hst
    | false =>
      rw [h503] at hst
      dsimp only [cond_false] at hst
      cases h504 : Nat.beq mm 504 with
      | true =>
        rw [h504] at hst
        dsimp only [cond_true] at hst
        have hmm := Nat.eq_of_beq_eq_true h504
        subst hmm
        split at hst
        · rename_i y9 x9 st
          cases hc : Nat.ble (cats st) 8 with
          | false => rw [hc] at hst; cases hst
          | true =>
            rw [hc] at hst
            obtain ⟨rfl, rfl, rfl, rfl⟩ := sNx_inj hst
            intro L H locs cells slots ls a1 a2 a3 a4 a5 a6 a7 a8 a9 b1
            have hsum := cats_le (L := L) hc
            have hcp := cap_now a7 a8 hcap
            exact va_mmin hx hb (hml.trans a3.1.symm) F.2.2.2.1 (W0.1.w (mk_int (mcx_lt hy) hf (by omega) (by omega))) (W0.1.w w_min.1) (W0.1.w w_max.2.1) (W0.1.w w_min.2) (by omega) (by omega) hcp.1 hcp.2 dec (kk L H locs cells slots ls a1 a2 a3 a4 a5 (ok_cons trivial (ok_tl (ok_tl a6))) a7 a8 a9 b1)
        · cases hst
      | false =>
        rw [h504] at hst
        dsimp only [cond_false] at hst
        cases h505 : Nat.beq mm 505 with
        | true =>
          rw [h505] at hst
          dsimp only [cond_true] at hst
          have hmm := Nat.eq_of_beq_eq_true h505
          subst hmm
          exact go_cpy F W0 (wi := 0) hf dec hst kk
        | false => rw [h505] at hst; exact (ivk_no (lo := lo) (np := pc + 3) (h := h) hst).elim
  · cases hst
theorem go_virt (F : FX p R s m meth c y) (W0 : WX s args D tc base b0 sc adK) (I0 : INTR p l e R s m args below meth c base adK y Q) (dec : decode (mByt y) pc = .ok (.invokevirtual k, 3)) (hcap : h'.1.2.1 ≤ R.cells + c0 ∧ h'.1.2.2 ≤ R.slots + k0) {K : List (Nat × Instr × Nat)} {i0 : Nat}
    (hst : stp sc y K (.invokevirtual k) (pc + 3) i0 lo st h = some (.inl (pc', lo', st', h'))) (kk : GO p l e R s m args below meth c base D tc adK b0 y L0 n0 c0 k0 Q pc' lo' st' h') : GO p l e R s m args below meth c base D tc adK b0 y L0 n0 c0 k0 Q pc lo st h := by
  have hy : y < 252 := F.2.2.2.2.2.2.2.1
  unfold stp at hst
  dsimp only at hst
  split at hst
  · rename_i mm w1 w2 hf
    cases h501 : Nat.beq mm 501 with
    | true =>
      rw [h501] at hst
      dsimp only [cond_true] at hst
      have hmm := Nat.eq_of_beq_eq_true h501
      subst hmm
      split at hst
      · rename_i i cc st
        cases hc : (Nat.beq cc 900 && Nat.blt i strN && Nat.ble (cats st) 8) with
        | false => rw [hc] at hst; cases hst
        | true =>
          rw [hc] at hst
          obtain ⟨rfl, rfl, rfl, rfl⟩ := sNx_inj hst
          simp only [Bool.and_eq_true] at hc
          obtain ⟨⟨g1, g2⟩, g3⟩ := hc
          have hcc := Nat.eq_of_beq_eq_true g1
          subst hcc
          have hi : i < strN := Nat.le_of_ble_eq_true g2
          intro L H locs cells slots ls a1 a2 a3 a4 a5 a6 a7 a8 a9 b1
          have hsum := cats_le (L := L) g3
          have hcp := cap_now a7 a8 hcap
          have key := (I0 H locs cells slots ls pc k i (st.map (avV L)) hi a2 hsum hcp.1 hcp.2 a3.1 dec).1 (W0.1.w (mk_int (mcx_lt hy) hf (by omega) (by omega))) (kk L H locs cells slots ls a1 a2 a3 a4 a5 (ok_cons trivial (ok_tl a6)) a7 a8 a9 b1)
          rw [← a1.2.2.2.2.1 i hi] at key
          exact key
      · cases hst
    | false =>
      rw [h501] at hst
      dsimp only [cond_false] at hst
      cases h502 : Nat.beq mm 502 with
      | true =>
        rw [h502] at hst
        dsimp only [cond_true] at hst
        have hmm := Nat.eq_of_beq_eq_true h502
        subst hmm
        split at hst
        · rename_i j9 i cc st
          cases hc : (Nat.beq cc 900 && Nat.blt i strN && inb j9 (txt i).length && Nat.ble (cats st) 8) with
          | false => rw [hc] at hst; cases hst
          | true =>
            rw [hc] at hst
            obtain ⟨rfl, rfl, rfl, rfl⟩ := sNx_inj hst
            simp only [Bool.and_eq_true] at hc
            obtain ⟨⟨⟨g1, g2⟩, g4⟩, g3⟩ := hc
            have hcc := Nat.eq_of_beq_eq_true g1
            subst hcc
            have hi : i < strN := Nat.le_of_ble_eq_true g2
            intro L H locs cells slots ls a1 a2 a3 a4 a5 a6 a7 a8 a9 b1
            have hsum := cats_le (L := L) g3
            have hcp := cap_now a7 a8 hcap
            have key := (I0 H locs cells slots ls pc k i (st.map (avV L)) hi a2 hsum hcp.1 hcp.2 a3.1 dec).2 j9 g4 (W0.1.w (mk_int (mcx_lt hy) hf (by omega) (by omega))) (kk L H locs cells slots ls a1 a2 a3 a4 a5 (ok_cons trivial (ok_tl (ok_tl a6))) a7 a8 a9 b1)
            rw [← a1.2.2.2.2.1 i hi] at key
            exact key
        · cases hst
      | false => rw [h502] at hst; exact (ivk_no (lo := lo) (np := pc + 3) (h := h) hst).elim
  · cases hst
theorem go_tsw (F : FX p R s m meth c y) {d a b : Int} {os : Array Int} {d0 : Int} {os0 : Array Int} {len : Nat} (dec : decode (mByt y) pc = .ok (.tableswitch d0 a b os0, len)) (e1 : (pc : Int) + d0 = d) (e2 : os0.map (fun z => (pc : Int) + z) = os) (hp : brPos (.tableswitch d a b os) = true) {K : List (Nat × Instr × Nat)} {i0 : Nat}
    (hst : stp sc y K (.tableswitch d a b os) (pc + len) i0 lo st h = some (.inl (pc', lo', st', h'))) (kk : GO p l e R s m args below meth c base D tc adK b0 y L0 n0 c0 k0 Q pc' lo' st' h') : GO p l e R s m args below meth c base D tc adK b0 y L0 n0 c0 k0 Q pc lo st h := by
  have hx := F.1
  have hb := F.2.1
  simp only [brPos, Bool.and_eq_true, decide_eq_true_eq] at hp
  unfold stp at hst
  dsimp only at hst
  split at hst
  · rename_i x st
    split at hst
    · rename_i hout
      obtain ⟨rfl, rfl, rfl, rfl⟩ := sNx_inj hst
      intro L H locs cells slots ls a1 a2 a3 a4 a5 a6 a7 a8 a9 b1
      exact lv_tableOut hx hb dec hout (by rw [e1, Int.toNat_of_nonneg hp.1]) (kk L H locs cells slots ls a1 a2 a3 a4 a5 (ok_tl a6) a7 a8 a9 b1)
    · rename_i hout
      split at hst
      · rename_i t ht
        obtain ⟨rfl, rfl, rfl, rfl⟩ := sNx_inj hst
        intro L H locs cells slots ls a1 a2 a3 a4 a5 a6 a7 a8 a9 b1
        have hin := not_or.mp hout
        have ht0 : 0 ≤ t := by
          have h9 := List.all_eq_true.mp hp.2 t (Array.mem_toList_iff.mpr (Array.mem_of_getElem? ht))
          simpa using h9
        rw [← e2, Array.getElem?_map] at ht
        obtain ⟨t0, g1, g2⟩ := Option.map_eq_some_iff.mp ht
        exact lv_tableIn hx hb dec hin.1 hin.2 g1 (by rw [g2, Int.toNat_of_nonneg ht0]) (kk L H locs cells slots ls a1 a2 a3 a4 a5 (ok_tl a6) a7 a8 a9 b1)
      · cases hst
  · cases hst
theorem go_iald (F : FX p R s m meth c y) (W0 : WX s args D tc base b0 sc adK) (dec : decode (mByt y) pc = .ok (.iaload, 1))
    (hst : aldI sc (fun q => Nat.beq q 0) lo st (pc + 1) h = some (.inl (pc', lo', st', h'))) (kk : GO p l e R s m args below meth c base D tc adK b0 y L0 n0 c0 k0 Q pc' lo' st' h') : GO p l e R s m args below meth c base D tc adK b0 y L0 n0 c0 k0 Q pc lo st h := by
  have hx := F.1
  have hb := F.2.1
  refine go_ald F W0 rfl (fun {H locs cells slots ls rest L i cc q n j x} hq hk hin hP hw kw => ?_) (fun _ => dec) hst kk
  have hq0 := Nat.eq_of_beq_eq_true hq
  subst hq0
  exact va_iald hx hb W0.1.2 hP j 0 (f := hG h i cc) hw rfl hin dec kw
theorem go_bald (F : FX p R s m meth c y) (W0 : WX s args D tc base b0 sc adK) (dec : decode (mByt y) pc = .ok (.baload, 1))
    (hst : aldI sc (fun q => Nat.beq q 1 || Nat.beq q 2) lo st (pc + 1) h = some (.inl (pc', lo', st', h'))) (kk : GO p l e R s m args below meth c base D tc adK b0 y L0 n0 c0 k0 Q pc' lo' st' h') : GO p l e R s m args below meth c base D tc adK b0 y L0 n0 c0 k0 Q pc lo st h := by
  have hx := F.1
  have hb := F.2.1
  refine go_ald F W0 rfl (fun {H locs cells slots ls rest L i cc q n j x} hq hk hin hP hw kw => ?_) (fun q => by cases q) hst kk
  rcases (Bool.or_eq_true _ _).mp hq with hq | hq
  · have hq0 := Nat.eq_of_beq_eq_true hq
    subst hq0
    exact va_bald hx hb W0.1.2 hP j 1 (f := hG h i cc) hw rfl hin dec kw
  · have hq0 := Nat.eq_of_beq_eq_true hq
    subst hq0
    exact va_zald hx hb W0.1.2 hP j 2 (f := hG h i cc) hw rfl hin dec kw
theorem go_iast (F : FX p R s m meth c y) (W0 : WX s args D tc base b0 sc adK) (dec : decode (mByt y) pc = .ok (.iastore, 1))
    (hst : astI (fun q => Nat.beq q 0) lo st (pc + 1) h = some (.inl (pc', lo', st', h'))) (kk : GO p l e R s m args below meth c base D tc adK b0 y L0 n0 c0 k0 Q pc' lo' st' h') : GO p l e R s m args below meth c base D tc adK b0 y L0 n0 c0 k0 Q pc lo st h := by
  have hx := F.1
  have hb := F.2.1
  refine go_ast F W0 (fun q hq => by have := Nat.eq_of_beq_eq_true hq; omega) (fun {H locs cells slots ls rest L i cc q n j x w} hq hk hin hP hD hS hw kw => ?_) hst kk
  have hq0 := Nat.eq_of_beq_eq_true hq
  subst hq0
  exact va_iast hx hb W0.1.2 hP hD hS j 0 (f := hG h i cc) hw rfl hin dec kw
theorem go_bast (F : FX p R s m meth c y) (W0 : WX s args D tc base b0 sc adK) (dec : decode (mByt y) pc = .ok (.bastore, 1))
    (hst : astI (fun q => Nat.beq q 1 || Nat.beq q 2) lo st (pc + 1) h = some (.inl (pc', lo', st', h'))) (kk : GO p l e R s m args below meth c base D tc adK b0 y L0 n0 c0 k0 Q pc' lo' st' h') : GO p l e R s m args below meth c base D tc adK b0 y L0 n0 c0 k0 Q pc lo st h := by
  have hx := F.1
  have hb := F.2.1
  refine go_ast F W0 (fun q hq => by rcases (Bool.or_eq_true _ _).mp hq with hq | hq <;> (have := Nat.eq_of_beq_eq_true hq; omega)) (fun {H locs cells slots ls rest L i cc q n j x w} hq hk hin hP hD hS hw kw => ?_) hst kk
  rcases (Bool.or_eq_true _ _).mp hq with hq | hq
  · have hq0 := Nat.eq_of_beq_eq_true hq
    subst hq0
    exact va_bast hx hb W0.1.2 hP hD hS j 1 (f := hG h i cc) hw rfl hin dec kw
  · have hq0 := Nat.eq_of_beq_eq_true hq
    subst hq0
    exact va_zast hx hb W0.1.2 hP hD hS j 2 (f := hG h i cc) hw rfl hin dec kw
set_option maxHeartbeats 4000000 in
theorem stp_go {i : Instr} (F : FX p R s m meth c y) (W0 : WX s args D tc base b0 sc adK) (I0 : INTR p l e R s m args below meth c base adK y Q) (hE : fnd (code9 y) pc = some (i, np)) (hcap : h'.1.2.1 ≤ R.cells + c0 ∧ h'.1.2.2 ≤ R.slots + k0)
    (hst : stp sc y (code9 y) i np pc lo st h = some (.inl (pc', lo', st', h'))) (kk : GO p l e R s m args below meth c base D tc adK b0 y L0 n0 c0 k0 Q pc' lo' st' h') : GO p l e R s m args below meth c base D tc adK b0 y L0 n0 c0 k0 Q pc lo st h := by
  have hx := F.1
  have hb := F.2.1
  have hml := F.2.2.1
  have hown := F.2.2.2.1
  have hy : y < 252 := F.2.2.2.2.2.2.2.1
  obtain ⟨i0, len, dec, habs, hnp, hlen⟩ := code_at hy hE
  have hbr := br_at hy hE
  subst hnp
  cases i
  case iconst n =>
    have e0 := absI_nb habs rfl; subst e0; have e1 := hlen rfl; subst e1
    exact go_push (v := vI (Int32.ofInt n)) trivial (fun _ kw => lv_iconst hx hb dec rfl kw) hst kk
  case bipush n =>
    have e0 := absI_nb habs rfl; subst e0; have e1 := hlen rfl; subst e1
    exact go_push (v := vI (Int8.ofInt n).toInt32) trivial (fun _ kw => lv_bipush hx hb dec rfl kw) hst kk
  case sipush n =>
    have e0 := absI_nb habs rfl; subst e0; have e1 := hlen rfl; subst e1
    exact go_push (v := vI (Int16.ofInt n).toInt32) trivial (fun _ kw => lv_sipush hx hb dec rfl kw) hst kk
  case lconst n =>
    have e0 := absI_nb habs rfl; subst e0; have e1 := hlen rfl; subst e1
    exact go_push (v := vJ (Int64.ofNat (n : Nat))) trivial (fun _ kw => lv_lconst hx hb dec rfl kw) hst kk
  case ldc k =>
    have e0 := absI_nb habs rfl; subst e0; have e1 := hlen rfl; subst e1
    unfold stp at hst
    dsimp only at hst
    split at hst
    · rename_i s9 hf
      exact go_ldc F W0 hf (fun hr kw => va_ldcS hx hb hown hr dec kw) hst kk
    · cases hst
  case ldc_w k =>
    have e0 := absI_nb habs rfl; subst e0; have e1 := hlen rfl; subst e1
    unfold stp at hst
    dsimp only at hst
    split at hst
    · rename_i s9 hf
      exact go_ldc F W0 hf (fun hr kw => ldcSW hx hb hown hr dec kw) hst kk
    · cases hst
  case ldc2_w k =>
    have e0 := absI_nb habs rfl; subst e0; have e1 := hlen rfl; subst e1
    unfold stp at hst
    dsimp only at hst
    split at hst
    · rename_i v9 w9 hf
      exact go_push (v := vJ v9) trivial (fun _ kw => lv_ldc2 hx hb hown (W0.1.w (lk_all _ (mcx_lt hy) _ (fnd_mem hf))) dec kw) hst kk
    · cases hst
  case iload k =>
    have e0 := absI_nb habs rfl; subst e0; have e1 := hlen rfl; subst e1
    exact go_ldI (fun hl kw => lv_iload hx hb dec hl kw) hst kk
  case iload_n k =>
    have e0 := absI_nb habs rfl; subst e0; have e1 := hlen rfl; subst e1
    exact go_ldI (k := k.val) (fun hl kw => lv_iload_n hx hb dec rfl hl kw) hst kk
  case lload k =>
    have e0 := absI_nb habs rfl; subst e0; have e1 := hlen rfl; subst e1
    exact go_ldJ (fun hl kw => lv_lload hx hb dec hl kw) hst kk
  case lload_n k =>
    have e0 := absI_nb habs rfl; subst e0; have e1 := hlen rfl; subst e1
    exact go_ldJ (k := k.val) (fun hl kw => lv_lload_n hx hb dec rfl hl kw) hst kk
  case aload k =>
    have e0 := absI_nb habs rfl; subst e0; have e1 := hlen rfl; subst e1
    exact go_ldA (fun hl kw => lv_aload hx hb dec hl kw) hst kk
  case aload_n k =>
    have e0 := absI_nb habs rfl; subst e0; have e1 := hlen rfl; subst e1
    exact go_ldA (k := k.val) (fun hl kw => lv_aload_n hx hb dec rfl hl kw) hst kk
  case istore k =>
    have e0 := absI_nb habs rfl; subst e0; have e1 := hlen rfl; subst e1
    exact go_stI (fun hh hn kw => lv_istore hx hb dec hh hn rfl kw) hst kk
  case istore_n k =>
    have e0 := absI_nb habs rfl; subst e0; have e1 := hlen rfl; subst e1
    exact go_stI (k := k.val) (fun hh hn kw => lv_istore_n hx hb dec rfl hh hn rfl kw) hst kk
  case lstore k =>
    have e0 := absI_nb habs rfl; subst e0; have e1 := hlen rfl; subst e1
    exact go_stJ (fun hh hn kw => lv_lstore hx hb dec hh hn rfl kw) hst kk
  case lstore_n k =>
    have e0 := absI_nb habs rfl; subst e0; have e1 := hlen rfl; subst e1
    exact go_stJ (k := k.val) (fun hh hn kw => lv_lstore_n hx hb dec rfl hh hn rfl kw) hst kk
  case astore k =>
    have e0 := absI_nb habs rfl; subst e0; have e1 := hlen rfl; subst e1
    exact go_stA (fun hh hn kw => lv_astore hx hb dec hh hn rfl kw) hst kk
  case astore_n k =>
    have e0 := absI_nb habs rfl; subst e0; have e1 := hlen rfl; subst e1
    exact go_stA (k := k.val) (fun hh hn kw => lv_astore_n hx hb dec rfl hh hn rfl kw) hst kk
  case iinc k n =>
    have e0 := absI_nb habs rfl; subst e0; have e1 := hlen rfl; subst e1
    exact go_iinc F dec hst kk
  case iadd =>
    have e0 := absI_nb habs rfl; subst e0; have e1 := hlen rfl; subst e1
    exact go_bin (f := (· + ·)) (fun kw => lv_iadd hx hb dec kw) hst kk
  case isub =>
    have e0 := absI_nb habs rfl; subst e0; have e1 := hlen rfl; subst e1
    exact go_bin (f := (· - ·)) (fun kw => lv_isub hx hb dec kw) hst kk
  case imul =>
    have e0 := absI_nb habs rfl; subst e0; have e1 := hlen rfl; subst e1
    exact go_bin (f := (· * ·)) (fun kw => lv_imul hx hb dec kw) hst kk
  case iand =>
    have e0 := absI_nb habs rfl; subst e0; have e1 := hlen rfl; subst e1
    exact go_bin (f := (· &&& ·)) (fun kw => lv_iand hx hb dec kw) hst kk
  case ior =>
    have e0 := absI_nb habs rfl; subst e0; have e1 := hlen rfl; subst e1
    exact go_bin (f := (· ||| ·)) (fun kw => lv_ior hx hb dec kw) hst kk
  case ishl =>
    have e0 := absI_nb habs rfl; subst e0; have e1 := hlen rfl; subst e1
    exact go_bin (f := (fun x y => x <<< (y &&& 31))) (fun kw => lv_ishl hx hb dec kw) hst kk
  case ishr =>
    have e0 := absI_nb habs rfl; subst e0; have e1 := hlen rfl; subst e1
    exact go_bin (f := (fun x y => x >>> (y &&& 31))) (fun kw => lv_ishr hx hb dec kw) hst kk
  case idiv =>
    have e0 := absI_nb habs rfl; subst e0; have e1 := hlen rfl; subst e1
    exact go_binD (f := (· / ·)) (fun h0 kw => lv_idiv hx hb dec h0 kw) hst kk
  case irem =>
    have e0 := absI_nb habs rfl; subst e0; have e1 := hlen rfl; subst e1
    exact go_binD (f := (fun x y => x - x / y * y)) (fun h0 kw => lv_irem hx hb dec h0 kw) hst kk
  case ladd =>
    have e0 := absI_nb habs rfl; subst e0; have e1 := hlen rfl; subst e1
    exact go_binJ (f := (· + ·)) (fun kw => lv_ladd hx hb dec kw) hst kk
  case lmul =>
    have e0 := absI_nb habs rfl; subst e0; have e1 := hlen rfl; subst e1
    exact go_binJ (f := (· * ·)) (fun kw => lv_lmul hx hb dec kw) hst kk
  case lcmp =>
    have e0 := absI_nb habs rfl; subst e0; have e1 := hlen rfl; subst e1
    exact go_lcmp F dec hst kk
  case i2l =>
    have e0 := absI_nb habs rfl; subst e0; have e1 := hlen rfl; subst e1
    exact go_i2l F dec hst kk
  case i2b =>
    have e0 := absI_nb habs rfl; subst e0; have e1 := hlen rfl; subst e1
    exact go_i2b F dec hst kk
  case dup =>
    have e0 := absI_nb habs rfl; subst e0; have e1 := hlen rfl; subst e1
    exact go_dup F dec hst kk
  case dup2 =>
    have e0 := absI_nb habs rfl; subst e0; have e1 := hlen rfl; subst e1
    exact go_dup2 F dec hst kk
  case pop =>
    have e0 := absI_nb habs rfl; subst e0; have e1 := hlen rfl; subst e1
    exact go_pop F dec hst kk
  case ifCond cc t =>
    obtain ⟨t0, e0, et⟩ := absI_if habs; subst e0; have e1 := hlen rfl; subst e1
    have ht : (pc : Int) + t0 = (t.toNat : Int) := by rw [et, Int.toNat_of_nonneg (of_decide_eq_true hbr)]
    cases cc
    case eq => exact go_br1 (f := fun x => decide (x = 0)) (tg := t.toNat) (fun k1 k2 => lv_if_eq hx hb dec ht (fun q => k1 (decide_eq_true q)) (fun q => k2 (decide_eq_false q))) hst kk
    case ne => exact go_br1 (f := fun x => !decide (x = 0)) (tg := t.toNat) (fun k1 k2 => lv_if_ne hx hb dec ht (fun q => k1 (by simpa using q)) (fun q => k2 (by simpa using q))) hst kk
    case lt => exact go_br1 (f := fun x => decide (x < 0)) (tg := t.toNat) (fun k1 k2 => lv_if_lt hx hb dec ht (fun q => k1 (decide_eq_true q)) (fun q => k2 (decide_eq_false q))) hst kk
    case ge => exact go_br1 (f := fun x => decide (0 ≤ x)) (tg := t.toNat) (fun k1 k2 => lv_if_ge hx hb dec ht (fun q => k1 (decide_eq_true q)) (fun q => k2 (decide_eq_false q))) hst kk
    case gt => exact go_br1 (f := fun x => decide (0 < x)) (tg := t.toNat) (fun k1 k2 => lv_if_gt hx hb dec ht (fun q => k1 (decide_eq_true q)) (fun q => k2 (decide_eq_false q))) hst kk
    case le => exact go_br1 (f := fun x => decide (x ≤ 0)) (tg := t.toNat) (fun k1 k2 => lv_if_le hx hb dec ht (fun q => k1 (decide_eq_true q)) (fun q => k2 (decide_eq_false q))) hst kk
  case if_icmp cc t =>
    obtain ⟨t0, e0, et⟩ := absI_cmp habs; subst e0; have e1 := hlen rfl; subst e1
    have ht : (pc : Int) + t0 = (t.toNat : Int) := by rw [et, Int.toNat_of_nonneg (of_decide_eq_true hbr)]
    cases cc
    case eq => exact go_br2 (f := fun x y => decide (x = y)) (tg := t.toNat) (fun k1 k2 => lv_icmp_eq hx hb dec ht (fun q => k1 (decide_eq_true q)) (fun q => k2 (decide_eq_false q))) hst kk
    case ne => exact go_br2 (f := fun x y => !decide (x = y)) (tg := t.toNat) (fun k1 k2 => lv_icmp_ne hx hb dec ht (fun q => k1 (by simpa using q)) (fun q => k2 (by simpa using q))) hst kk
    case lt => exact go_br2 (f := fun x y => decide (x < y)) (tg := t.toNat) (fun k1 k2 => lv_icmp_lt hx hb dec ht (fun q => k1 (decide_eq_true q)) (fun q => k2 (decide_eq_false q))) hst kk
    case ge => exact go_br2 (f := fun x y => decide (y ≤ x)) (tg := t.toNat) (fun k1 k2 => lv_icmp_ge hx hb dec ht (fun q => k1 (decide_eq_true q)) (fun q => k2 (decide_eq_false q))) hst kk
    case gt => exact go_br2 (f := fun x y => decide (y < x)) (tg := t.toNat) (fun k1 k2 => lv_icmp_gt hx hb dec ht (fun q => k1 (decide_eq_true q)) (fun q => k2 (decide_eq_false q))) hst kk
    case le => exact go_br2 (f := fun x y => decide (x ≤ y)) (tg := t.toNat) (fun k1 k2 => lv_icmp_le hx hb dec ht (fun q => k1 (decide_eq_true q)) (fun q => k2 (decide_eq_false q))) hst kk
  case goto t =>
    obtain ⟨t0, e0, et⟩ := absI_goto habs; subst e0; have e1 := hlen rfl; subst e1
    have ht : (pc : Int) + t0 = (t.toNat : Int) := by rw [et, Int.toNat_of_nonneg (of_decide_eq_true hbr)]
    obtain ⟨q1, q2, q3, q4⟩ := sNx_inj hst
    subst q1; subst q2; subst q3; subst q4
    intro L H locs cells slots ls a1 a2 a3 a4 a5 a6 a7 a8 a9 b1
    exact lv_goto hx hb dec ht (kk L H locs cells slots ls a1 a2 a3 a4 a5 a6 a7 a8 a9 b1)
  case ifnull t =>
    obtain ⟨t0, e0, et⟩ := absI_ifnull habs; subst e0; have e1 := hlen rfl; subst e1
    exact go_null F dec hst kk
  case tableswitch d a b os =>
    obtain ⟨d0, os0, e0, e1, e2⟩ := absI_tsw habs; subst e0
    exact go_tsw F dec e1 e2 hbr hst kk
  case getfield k =>
    have e0 := absI_nb habs rfl; subst e0; have e1 := hlen rfl; subst e1
    exact go_getf F W0 dec hst kk
  case putfield k =>
    have e0 := absI_nb habs rfl; subst e0; have e1 := hlen rfl; subst e1
    exact go_putf F W0 dec hst kk
  case iaload =>
    have e0 := absI_nb habs rfl; subst e0; have e1 := hlen rfl; subst e1
    exact go_iald F W0 dec hst kk
  case baload =>
    have e0 := absI_nb habs rfl; subst e0; have e1 := hlen rfl; subst e1
    exact go_bald F W0 dec hst kk
  case iastore =>
    have e0 := absI_nb habs rfl; subst e0; have e1 := hlen rfl; subst e1
    exact go_iast F W0 dec hst kk
  case bastore =>
    have e0 := absI_nb habs rfl; subst e0; have e1 := hlen rfl; subst e1
    exact go_bast F W0 dec hst kk
  case laload =>
    have e0 := absI_nb habs rfl; subst e0; have e1 := hlen rfl; subst e1
    exact go_lald F W0 dec hst kk
  case lastore =>
    have e0 := absI_nb habs rfl; subst e0; have e1 := hlen rfl; subst e1
    exact go_last F W0 dec hst kk
  case aaload =>
    have e0 := absI_nb habs rfl; subst e0; have e1 := hlen rfl; subst e1
    exact go_aald F W0 dec hst kk
  case aastore =>
    have e0 := absI_nb habs rfl; subst e0; have e1 := hlen rfl; subst e1
    exact go_aast F W0 dec hst kk
  case arraylength =>
    have e0 := absI_nb habs rfl; subst e0; have e1 := hlen rfl; subst e1
    exact go_alen F W0 dec hst kk
  case newarray t =>
    have e0 := absI_nb habs rfl; subst e0; have e1 := hlen rfl; subst e1
    exact go_newa F W0 dec hcap hst kk
  case anewarray k =>
    have e0 := absI_nb habs rfl; subst e0; have e1 := hlen rfl; subst e1
    exact go_newq F W0 dec (anq_at hy hE) hcap hst kk
  case new k =>
    have e0 := absI_nb habs rfl; subst e0; have e1 := hlen rfl; subst e1
    unfold stp at hst
    dsimp only at hst
    split at hst
    · rename_i ci w1 w2 w3 hf
      exact go_newc F W0 hf dec hcap hst kk
    · rename_i e9 w1 w2 w3 w4 hf
      generalize (thrP (mcx y) (code9 y) pc e9 && Nat.ble (cats st) 8) = bb at hst
      cases bb <;> cases hst
    · cases hst
  case invokespecial k =>
    have e0 := absI_nb habs rfl; subst e0; have e1 := hlen rfl; subst e1
    exact go_spec F W0 dec hst kk
  case invokestatic k =>
    have e0 := absI_nb habs rfl; subst e0; have e1 := hlen rfl; subst e1
    exact go_stat F W0 dec hcap hst kk
  case invokevirtual k =>
    have e0 := absI_nb habs rfl; subst e0; have e1 := hlen rfl; subst e1
    exact go_virt F W0 I0 dec hcap hst kk
  case ireturn =>
    unfold stp at hst
    dsimp only at hst
    repeat' (split at hst)
    all_goals (first | cases hst | (simp only [Option.some.injEq, reduceCtorEq] at hst))
  case lreturn =>
    unfold stp at hst
    dsimp only at hst
    repeat' (split at hst)
    all_goals (first | cases hst | (simp only [Option.some.injEq, reduceCtorEq] at hst))
  case return_ =>
    unfold stp at hst
    dsimp only at hst
    repeat' (split at hst)
    all_goals (first | cases hst | (simp only [Option.some.injEq, reduceCtorEq] at hst))
  all_goals cases hst
end STPGO
end
section
/-! the words of thrown exceptions, by their places in the tables (written by wip/whole/gen_exw.py) -/
def sofW : Cond → Bool
  | .declares _ => true
  | .castable _ _ => true
  | .methodLinkNest _ _ _ _ => true
  | _ => false
def exN9 (i : Nat) : String := EXL.getD i ""
def exC9 (i : Nat) : Nat := match i with
  | 0 => 136
  | 1 => 273
  | 2 => 155
  | _ => 178
def xc_six : ByteArray := ⟨#[0x2a, 0x2b, 0xb7, 0x00, 0x0d, 0xb1]⟩
def exX9 (i : Nat) : Nat := match i with
  | 3 => 13
  | _ => 7
def exR9 (i : Nat) : ByteArray := match i with
  | 3 => xc_six
  | _ => Bundle.six
/-- what is asked of a made exception whose constructor passes its text on by any link -/
def xc_atoms (own : String) (ic : Nat) (X : String) (ix : Nat) (rx : ByteArray) : List Cond :=
  Bundle.throwableAtoms ++ Bundle.throwableSAtoms ++ (Bundle.passSAtoms X "java/lang/RuntimeException" ix rx ++ Bundle.chainSAtoms "java/lang/RuntimeException" ["java/lang/Exception"]) ++
  [.methodLink own ic (Bundle.initS X), .instantiable X 6, .castable X X, .selects X Bundle.tFill0 Bundle.tFill0, .selects X Bundle.tFill Bundle.tFill,
   .lays X Bundle.tN "cause" "Ljava/lang/Throwable;", .lays X Bundle.tN "stackTrace" Bundle.steD, .lays X Bundle.tN "suppressedExceptions" Bundle.listD, .lays X Bundle.tN "detailMessage" "Ljava/lang/String;",
   .isRef (.static Bundle.tN "UNASSIGNED_STACK" Bundle.steD), .isRef (.static Bundle.tN "SUPPRESSED_SENTINEL" Bundle.listD),
   .fieldLink Bundle.tN 198 Bundle.tN "backtrace" "Ljava/lang/Object;", .lays Bundle.tN Bundle.tN "backtrace" "Ljava/lang/Object;", .lays X Bundle.tN "backtrace" "Ljava/lang/Object;"]
def XWP (w : Cond) : Prop := vx_no w = true → w ∈ lw_tbl ∧ (goodWord w = true ∨ sofW w = true) ∧ vx_ot w = true
theorem xw_g {w : Cond} (h : w ∈ lw_tbl) (g : goodWord w = true) (o : vx_ot w = true) : XWP w := fun _ => ⟨h, Or.inl g, o⟩
theorem xw_s {w : Cond} (h : w ∈ lw_tbl) (g : sofW w = true) (o : vx_ot w = true) : XWP w := fun _ => ⟨h, Or.inr g, o⟩
theorem xw_n {w : Cond} (h : vx_no w = false) : XWP w := fun g => by rw [h] at g; cases g
theorem xw_thr : ∀ w ∈ Bundle.throwableAtoms, XWP w := List.forall_mem_cons.mpr ⟨xw_g (mt_1 (i := 13) (by first | rfl | decide +kernel)) (by rfl) (by rfl), List.forall_mem_cons.mpr ⟨xw_g (mt_3 (i := 76) (by first | rfl | decide +kernel)) (by rfl) (by rfl), List.forall_mem_cons.mpr ⟨xw_g (mt_3 (i := 85) (by first | rfl | decide +kernel)) (by rfl) (by rfl), List.forall_mem_cons.mpr ⟨xw_g (mt_3 (i := 90) (by first | rfl | decide +kernel)) (by rfl) (by rfl), List.forall_mem_cons.mpr ⟨xw_g (mt_3 (i := 93) (by first | rfl | decide +kernel)) (by rfl) (by rfl), List.forall_mem_cons.mpr ⟨xw_g (mt_3 (i := 95) (by first | rfl | decide +kernel)) (by rfl) (by rfl), List.forall_mem_cons.mpr ⟨xw_g (mt_3 (i := 77) (by first | rfl | decide +kernel)) (by rfl) (by rfl), List.forall_mem_cons.mpr ⟨xw_g (mt_3 (i := 78) (by first | rfl | decide +kernel)) (by rfl) (by rfl), List.forall_mem_cons.mpr ⟨xw_g (mt_1 (i := 32) (by first | rfl | decide +kernel)) (by rfl) (by rfl), List.forall_mem_cons.mpr ⟨xw_g (mt_1 (i := 33) (by first | rfl | decide +kernel)) (by rfl) (by rfl), List.forall_mem_cons.mpr ⟨xw_g (mt_3 (i := 79) (by first | rfl | decide +kernel)) (by rfl) (by rfl), List.forall_mem_cons.mpr ⟨xw_g (mt_3 (i := 84) (by first | rfl | decide +kernel)) (by rfl) (by rfl), List.forall_mem_cons.mpr ⟨xw_g (mt_3 (i := 91) (by first | rfl | decide +kernel)) (by rfl) (by rfl), List.forall_mem_cons.mpr ⟨xw_g (mt_3 (i := 111) (by first | rfl | decide +kernel)) (by rfl) (by rfl), List.forall_mem_cons.mpr ⟨xw_g (mt_3 (i := 66) (by first | rfl | decide +kernel)) (by rfl) (by rfl), List.forall_mem_cons.mpr ⟨xw_g (mt_3 (i := 112) (by first | rfl | decide +kernel)) (by rfl) (by rfl), List.forall_mem_cons.mpr ⟨xw_g (mt_3 (i := 68) (by first | rfl | decide +kernel)) (by rfl) (by rfl), List.forall_mem_cons.mpr ⟨xw_g (mt_3 (i := 113) (by first | rfl | decide +kernel)) (by rfl) (by rfl), List.forall_mem_cons.mpr ⟨xw_g (mt_3 (i := 70) (by first | rfl | decide +kernel)) (by rfl) (by rfl), List.forall_mem_cons.mpr ⟨xw_g (mt_3 (i := 80) (by first | rfl | decide +kernel)) (by rfl) (by rfl), List.forall_mem_cons.mpr ⟨xw_n (by decide +kernel), List.forall_mem_cons.mpr ⟨xw_g (mt_3 (i := 82) (by first | rfl | decide +kernel)) (by rfl) (by rfl), List.forall_mem_cons.mpr ⟨xw_n (by decide +kernel), List.forall_mem_cons.mpr ⟨xw_g (mt_3 (i := 72) (by first | rfl | decide +kernel)) (by rfl) (by rfl), fun _ h => nomatch h⟩⟩⟩⟩⟩⟩⟩⟩⟩⟩⟩⟩⟩⟩⟩⟩⟩⟩⟩⟩⟩⟩⟩⟩
theorem xw_thrS : ∀ w ∈ Bundle.throwableSAtoms, XWP w := List.forall_mem_cons.mpr ⟨xw_g (mt_3 (i := 107) (by first | rfl | decide +kernel)) (by rfl) (by rfl), List.forall_mem_cons.mpr ⟨xw_g (mt_3 (i := 108) (by first | rfl | decide +kernel)) (by rfl) (by rfl), List.forall_mem_cons.mpr ⟨xw_g (mt_3 (i := 110) (by first | rfl | decide +kernel)) (by rfl) (by rfl), List.forall_mem_cons.mpr ⟨xw_g (mt_3 (i := 72) (by first | rfl | decide +kernel)) (by rfl) (by rfl), fun _ h => nomatch h⟩⟩⟩⟩
theorem xw_pR : ∀ w ∈ Bundle.passSAtoms "java/lang/RuntimeException" "java/lang/Exception" 7 Bundle.six, XWP w := List.forall_mem_cons.mpr ⟨xw_g (mt_3 (i := 101) (by first | rfl | decide +kernel)) (by rfl) (by rfl), List.forall_mem_cons.mpr ⟨xw_g (mt_3 (i := 102) (by first | rfl | decide +kernel)) (by rfl) (by rfl), List.forall_mem_cons.mpr ⟨xw_g (mt_3 (i := 103) (by first | rfl | decide +kernel)) (by rfl) (by rfl), List.forall_mem_cons.mpr ⟨xw_g (mt_3 (i := 104) (by first | rfl | decide +kernel)) (by rfl) (by rfl), List.forall_mem_cons.mpr ⟨xw_s (mt_3 (i := 60) (by first | rfl | decide +kernel)) (by rfl) (by rfl), fun _ h => nomatch h⟩⟩⟩⟩⟩
theorem xw_pE : ∀ w ∈ Bundle.passSAtoms "java/lang/Exception" Bundle.tN 7 Bundle.six, XWP w := List.forall_mem_cons.mpr ⟨xw_g (mt_3 (i := 104) (by first | rfl | decide +kernel)) (by rfl) (by rfl), List.forall_mem_cons.mpr ⟨xw_g (mt_3 (i := 105) (by first | rfl | decide +kernel)) (by rfl) (by rfl), List.forall_mem_cons.mpr ⟨xw_g (mt_3 (i := 106) (by first | rfl | decide +kernel)) (by rfl) (by rfl), List.forall_mem_cons.mpr ⟨xw_g (mt_3 (i := 107) (by first | rfl | decide +kernel)) (by rfl) (by rfl), List.forall_mem_cons.mpr ⟨xw_s (mt_3 (i := 62) (by first | rfl | decide +kernel)) (by rfl) (by rfl), fun _ h => nomatch h⟩⟩⟩⟩⟩
theorem xw_p0 : ∀ w ∈ Bundle.passSAtoms "java/lang/IllegalArgumentException" "java/lang/RuntimeException" 7 Bundle.six, XWP w := List.forall_mem_cons.mpr ⟨xw_g (mt_3 (i := 98) (by first | rfl | decide +kernel)) (by rfl) (by rfl), List.forall_mem_cons.mpr ⟨xw_g (mt_3 (i := 99) (by first | rfl | decide +kernel)) (by rfl) (by rfl), List.forall_mem_cons.mpr ⟨xw_g (mt_3 (i := 100) (by first | rfl | decide +kernel)) (by rfl) (by rfl), List.forall_mem_cons.mpr ⟨xw_g (mt_3 (i := 101) (by first | rfl | decide +kernel)) (by rfl) (by rfl), List.forall_mem_cons.mpr ⟨xw_s (mt_3 (i := 58) (by first | rfl | decide +kernel)) (by rfl) (by rfl), fun _ h => nomatch h⟩⟩⟩⟩⟩
theorem xw_r0 : ∀ w ∈ ([.methodLink "MountSpaces" 136 (Bundle.initS "java/lang/IllegalArgumentException"), .instantiable "java/lang/IllegalArgumentException" 6, .castable "java/lang/IllegalArgumentException" "java/lang/IllegalArgumentException", .selects "java/lang/IllegalArgumentException" Bundle.tFill0 Bundle.tFill0, .selects "java/lang/IllegalArgumentException" Bundle.tFill Bundle.tFill, .lays "java/lang/IllegalArgumentException" Bundle.tN "cause" "Ljava/lang/Throwable;", .lays "java/lang/IllegalArgumentException" Bundle.tN "stackTrace" Bundle.steD, .lays "java/lang/IllegalArgumentException" Bundle.tN "suppressedExceptions" Bundle.listD, .lays "java/lang/IllegalArgumentException" Bundle.tN "detailMessage" "Ljava/lang/String;", .isRef (.static Bundle.tN "UNASSIGNED_STACK" Bundle.steD), .isRef (.static Bundle.tN "SUPPRESSED_SENTINEL" Bundle.listD), .fieldLink Bundle.tN 198 Bundle.tN "backtrace" "Ljava/lang/Object;", .lays Bundle.tN Bundle.tN "backtrace" "Ljava/lang/Object;", .lays "java/lang/IllegalArgumentException" Bundle.tN "backtrace" "Ljava/lang/Object;"] : List Cond), XWP w := List.forall_mem_cons.mpr ⟨xw_g (mt_3 (i := 97) (by first | rfl | decide +kernel)) (by rfl) (by rfl), List.forall_mem_cons.mpr ⟨xw_g (mt_3 (i := 55) (by first | rfl | decide +kernel)) (by rfl) (by rfl), List.forall_mem_cons.mpr ⟨xw_s (mt_3 (i := 56) (by first | rfl | decide +kernel)) (by rfl) (by rfl), List.forall_mem_cons.mpr ⟨xw_g (mt_3 (i := 63) (by first | rfl | decide +kernel)) (by rfl) (by rfl), List.forall_mem_cons.mpr ⟨xw_g (mt_3 (i := 64) (by first | rfl | decide +kernel)) (by rfl) (by rfl), List.forall_mem_cons.mpr ⟨xw_g (mt_3 (i := 65) (by first | rfl | decide +kernel)) (by rfl) (by rfl), List.forall_mem_cons.mpr ⟨xw_g (mt_3 (i := 67) (by first | rfl | decide +kernel)) (by rfl) (by rfl), List.forall_mem_cons.mpr ⟨xw_g (mt_3 (i := 69) (by first | rfl | decide +kernel)) (by rfl) (by rfl), List.forall_mem_cons.mpr ⟨xw_g (mt_3 (i := 71) (by first | rfl | decide +kernel)) (by rfl) (by rfl), List.forall_mem_cons.mpr ⟨xw_n (by decide +kernel), List.forall_mem_cons.mpr ⟨xw_n (by decide +kernel), List.forall_mem_cons.mpr ⟨xw_g (mt_3 (i := 75) (by first | rfl | decide +kernel)) (by rfl) (by rfl), List.forall_mem_cons.mpr ⟨xw_g (mt_3 (i := 74) (by first | rfl | decide +kernel)) (by rfl) (by rfl), List.forall_mem_cons.mpr ⟨xw_g (mt_3 (i := 73) (by first | rfl | decide +kernel)) (by rfl) (by rfl), fun _ h => nomatch h⟩⟩⟩⟩⟩⟩⟩⟩⟩⟩⟩⟩⟩⟩
theorem xw_0 : ∀ w ∈ xc_atoms "MountSpaces" 136 "java/lang/IllegalArgumentException" 7 Bundle.six, XWP w := List.forall_mem_append.mpr ⟨List.forall_mem_append.mpr ⟨List.forall_mem_append.mpr ⟨xw_thr, xw_thrS⟩, List.forall_mem_append.mpr ⟨xw_p0, List.forall_mem_append.mpr ⟨xw_pR, xw_pE⟩⟩⟩, xw_r0⟩
theorem xw_p1 : ∀ w ∈ Bundle.passSAtoms "java/lang/IllegalStateException" "java/lang/RuntimeException" 7 Bundle.six, XWP w := List.forall_mem_cons.mpr ⟨xw_g (mt_5 (i := 178) (by first | rfl | decide +kernel)) (by rfl) (by rfl), List.forall_mem_cons.mpr ⟨xw_g (mt_5 (i := 179) (by first | rfl | decide +kernel)) (by rfl) (by rfl), List.forall_mem_cons.mpr ⟨xw_g (mt_5 (i := 180) (by first | rfl | decide +kernel)) (by rfl) (by rfl), List.forall_mem_cons.mpr ⟨xw_g (mt_3 (i := 101) (by first | rfl | decide +kernel)) (by rfl) (by rfl), List.forall_mem_cons.mpr ⟨xw_s (mt_3 (i := 58) (by first | rfl | decide +kernel)) (by rfl) (by rfl), fun _ h => nomatch h⟩⟩⟩⟩⟩
theorem xw_r1 : ∀ w ∈ ([.methodLink "MountSpaces" 273 (Bundle.initS "java/lang/IllegalStateException"), .instantiable "java/lang/IllegalStateException" 6, .castable "java/lang/IllegalStateException" "java/lang/IllegalStateException", .selects "java/lang/IllegalStateException" Bundle.tFill0 Bundle.tFill0, .selects "java/lang/IllegalStateException" Bundle.tFill Bundle.tFill, .lays "java/lang/IllegalStateException" Bundle.tN "cause" "Ljava/lang/Throwable;", .lays "java/lang/IllegalStateException" Bundle.tN "stackTrace" Bundle.steD, .lays "java/lang/IllegalStateException" Bundle.tN "suppressedExceptions" Bundle.listD, .lays "java/lang/IllegalStateException" Bundle.tN "detailMessage" "Ljava/lang/String;", .isRef (.static Bundle.tN "UNASSIGNED_STACK" Bundle.steD), .isRef (.static Bundle.tN "SUPPRESSED_SENTINEL" Bundle.listD), .fieldLink Bundle.tN 198 Bundle.tN "backtrace" "Ljava/lang/Object;", .lays Bundle.tN Bundle.tN "backtrace" "Ljava/lang/Object;", .lays "java/lang/IllegalStateException" Bundle.tN "backtrace" "Ljava/lang/Object;"] : List Cond), XWP w := List.forall_mem_cons.mpr ⟨xw_g (mt_5 (i := 177) (by first | rfl | decide +kernel)) (by rfl) (by rfl), List.forall_mem_cons.mpr ⟨xw_g (mt_5 (i := 168) (by first | rfl | decide +kernel)) (by rfl) (by rfl), List.forall_mem_cons.mpr ⟨xw_s (mt_5 (i := 169) (by first | rfl | decide +kernel)) (by rfl) (by rfl), List.forall_mem_cons.mpr ⟨xw_g (mt_5 (i := 170) (by first | rfl | decide +kernel)) (by rfl) (by rfl), List.forall_mem_cons.mpr ⟨xw_g (mt_3 (i := 87) (by first | rfl | decide +kernel)) (by rfl) (by rfl), List.forall_mem_cons.mpr ⟨xw_g (mt_5 (i := 171) (by first | rfl | decide +kernel)) (by rfl) (by rfl), List.forall_mem_cons.mpr ⟨xw_g (mt_5 (i := 172) (by first | rfl | decide +kernel)) (by rfl) (by rfl), List.forall_mem_cons.mpr ⟨xw_g (mt_5 (i := 173) (by first | rfl | decide +kernel)) (by rfl) (by rfl), List.forall_mem_cons.mpr ⟨xw_g (mt_5 (i := 174) (by first | rfl | decide +kernel)) (by rfl) (by rfl), List.forall_mem_cons.mpr ⟨xw_n (by decide +kernel), List.forall_mem_cons.mpr ⟨xw_n (by decide +kernel), List.forall_mem_cons.mpr ⟨xw_g (mt_3 (i := 75) (by first | rfl | decide +kernel)) (by rfl) (by rfl), List.forall_mem_cons.mpr ⟨xw_g (mt_3 (i := 74) (by first | rfl | decide +kernel)) (by rfl) (by rfl), List.forall_mem_cons.mpr ⟨xw_g (mt_5 (i := 175) (by first | rfl | decide +kernel)) (by rfl) (by rfl), fun _ h => nomatch h⟩⟩⟩⟩⟩⟩⟩⟩⟩⟩⟩⟩⟩⟩
theorem xw_1 : ∀ w ∈ xc_atoms "MountSpaces" 273 "java/lang/IllegalStateException" 7 Bundle.six, XWP w := List.forall_mem_append.mpr ⟨List.forall_mem_append.mpr ⟨List.forall_mem_append.mpr ⟨xw_thr, xw_thrS⟩, List.forall_mem_append.mpr ⟨xw_p1, List.forall_mem_append.mpr ⟨xw_pR, xw_pE⟩⟩⟩, xw_r1⟩
theorem xw_p2 : ∀ w ∈ Bundle.passSAtoms "java/lang/IndexOutOfBoundsException" "java/lang/RuntimeException" 7 Bundle.six, XWP w := List.forall_mem_cons.mpr ⟨xw_g (mt_4 (i := 159) (by first | rfl | decide +kernel)) (by rfl) (by rfl), List.forall_mem_cons.mpr ⟨xw_g (mt_4 (i := 160) (by first | rfl | decide +kernel)) (by rfl) (by rfl), List.forall_mem_cons.mpr ⟨xw_g (mt_4 (i := 161) (by first | rfl | decide +kernel)) (by rfl) (by rfl), List.forall_mem_cons.mpr ⟨xw_g (mt_3 (i := 101) (by first | rfl | decide +kernel)) (by rfl) (by rfl), List.forall_mem_cons.mpr ⟨xw_s (mt_3 (i := 58) (by first | rfl | decide +kernel)) (by rfl) (by rfl), fun _ h => nomatch h⟩⟩⟩⟩⟩
theorem xw_r2 : ∀ w ∈ ([.methodLink "MountSpaces" 155 (Bundle.initS "java/lang/IndexOutOfBoundsException"), .instantiable "java/lang/IndexOutOfBoundsException" 6, .castable "java/lang/IndexOutOfBoundsException" "java/lang/IndexOutOfBoundsException", .selects "java/lang/IndexOutOfBoundsException" Bundle.tFill0 Bundle.tFill0, .selects "java/lang/IndexOutOfBoundsException" Bundle.tFill Bundle.tFill, .lays "java/lang/IndexOutOfBoundsException" Bundle.tN "cause" "Ljava/lang/Throwable;", .lays "java/lang/IndexOutOfBoundsException" Bundle.tN "stackTrace" Bundle.steD, .lays "java/lang/IndexOutOfBoundsException" Bundle.tN "suppressedExceptions" Bundle.listD, .lays "java/lang/IndexOutOfBoundsException" Bundle.tN "detailMessage" "Ljava/lang/String;", .isRef (.static Bundle.tN "UNASSIGNED_STACK" Bundle.steD), .isRef (.static Bundle.tN "SUPPRESSED_SENTINEL" Bundle.listD), .fieldLink Bundle.tN 198 Bundle.tN "backtrace" "Ljava/lang/Object;", .lays Bundle.tN Bundle.tN "backtrace" "Ljava/lang/Object;", .lays "java/lang/IndexOutOfBoundsException" Bundle.tN "backtrace" "Ljava/lang/Object;"] : List Cond), XWP w := List.forall_mem_cons.mpr ⟨xw_g (mt_4 (i := 158) (by first | rfl | decide +kernel)) (by rfl) (by rfl), List.forall_mem_cons.mpr ⟨xw_g (mt_4 (i := 149) (by first | rfl | decide +kernel)) (by rfl) (by rfl), List.forall_mem_cons.mpr ⟨xw_s (mt_4 (i := 150) (by first | rfl | decide +kernel)) (by rfl) (by rfl), List.forall_mem_cons.mpr ⟨xw_g (mt_4 (i := 151) (by first | rfl | decide +kernel)) (by rfl) (by rfl), List.forall_mem_cons.mpr ⟨xw_g (mt_3 (i := 88) (by first | rfl | decide +kernel)) (by rfl) (by rfl), List.forall_mem_cons.mpr ⟨xw_g (mt_4 (i := 152) (by first | rfl | decide +kernel)) (by rfl) (by rfl), List.forall_mem_cons.mpr ⟨xw_g (mt_4 (i := 153) (by first | rfl | decide +kernel)) (by rfl) (by rfl), List.forall_mem_cons.mpr ⟨xw_g (mt_4 (i := 154) (by first | rfl | decide +kernel)) (by rfl) (by rfl), List.forall_mem_cons.mpr ⟨xw_g (mt_4 (i := 155) (by first | rfl | decide +kernel)) (by rfl) (by rfl), List.forall_mem_cons.mpr ⟨xw_n (by decide +kernel), List.forall_mem_cons.mpr ⟨xw_n (by decide +kernel), List.forall_mem_cons.mpr ⟨xw_g (mt_3 (i := 75) (by first | rfl | decide +kernel)) (by rfl) (by rfl), List.forall_mem_cons.mpr ⟨xw_g (mt_3 (i := 74) (by first | rfl | decide +kernel)) (by rfl) (by rfl), List.forall_mem_cons.mpr ⟨xw_g (mt_4 (i := 156) (by first | rfl | decide +kernel)) (by rfl) (by rfl), fun _ h => nomatch h⟩⟩⟩⟩⟩⟩⟩⟩⟩⟩⟩⟩⟩⟩
theorem xw_2 : ∀ w ∈ xc_atoms "MountSpaces" 155 "java/lang/IndexOutOfBoundsException" 7 Bundle.six, XWP w := List.forall_mem_append.mpr ⟨List.forall_mem_append.mpr ⟨List.forall_mem_append.mpr ⟨xw_thr, xw_thrS⟩, List.forall_mem_append.mpr ⟨xw_p2, List.forall_mem_append.mpr ⟨xw_pR, xw_pE⟩⟩⟩, xw_r2⟩
theorem xw_p3 : ∀ w ∈ Bundle.passSAtoms "java/util/NoSuchElementException" "java/lang/RuntimeException" 13 xc_six, XWP w := List.forall_mem_cons.mpr ⟨xw_g (mt_4 (i := 196) (by first | rfl | decide +kernel)) (by rfl) (by rfl), List.forall_mem_cons.mpr ⟨xw_g (mt_4 (i := 197) (by first | rfl | decide +kernel)) (by rfl) (by rfl), List.forall_mem_cons.mpr ⟨xw_g (mt_4 (i := 198) (by first | rfl | decide +kernel)) (by rfl) (by rfl), List.forall_mem_cons.mpr ⟨xw_g (mt_3 (i := 101) (by first | rfl | decide +kernel)) (by rfl) (by rfl), List.forall_mem_cons.mpr ⟨xw_s (mt_3 (i := 58) (by first | rfl | decide +kernel)) (by rfl) (by rfl), fun _ h => nomatch h⟩⟩⟩⟩⟩
theorem xw_r3 : ∀ w ∈ ([.methodLink "MountSpaces" 178 (Bundle.initS "java/util/NoSuchElementException"), .instantiable "java/util/NoSuchElementException" 6, .castable "java/util/NoSuchElementException" "java/util/NoSuchElementException", .selects "java/util/NoSuchElementException" Bundle.tFill0 Bundle.tFill0, .selects "java/util/NoSuchElementException" Bundle.tFill Bundle.tFill, .lays "java/util/NoSuchElementException" Bundle.tN "cause" "Ljava/lang/Throwable;", .lays "java/util/NoSuchElementException" Bundle.tN "stackTrace" Bundle.steD, .lays "java/util/NoSuchElementException" Bundle.tN "suppressedExceptions" Bundle.listD, .lays "java/util/NoSuchElementException" Bundle.tN "detailMessage" "Ljava/lang/String;", .isRef (.static Bundle.tN "UNASSIGNED_STACK" Bundle.steD), .isRef (.static Bundle.tN "SUPPRESSED_SENTINEL" Bundle.listD), .fieldLink Bundle.tN 198 Bundle.tN "backtrace" "Ljava/lang/Object;", .lays Bundle.tN Bundle.tN "backtrace" "Ljava/lang/Object;", .lays "java/util/NoSuchElementException" Bundle.tN "backtrace" "Ljava/lang/Object;"] : List Cond), XWP w := List.forall_mem_cons.mpr ⟨xw_g (mt_4 (i := 195) (by first | rfl | decide +kernel)) (by rfl) (by rfl), List.forall_mem_cons.mpr ⟨xw_g (mt_4 (i := 186) (by first | rfl | decide +kernel)) (by rfl) (by rfl), List.forall_mem_cons.mpr ⟨xw_s (mt_4 (i := 187) (by first | rfl | decide +kernel)) (by rfl) (by rfl), List.forall_mem_cons.mpr ⟨xw_g (mt_4 (i := 188) (by first | rfl | decide +kernel)) (by rfl) (by rfl), List.forall_mem_cons.mpr ⟨xw_g (mt_3 (i := 89) (by first | rfl | decide +kernel)) (by rfl) (by rfl), List.forall_mem_cons.mpr ⟨xw_g (mt_4 (i := 189) (by first | rfl | decide +kernel)) (by rfl) (by rfl), List.forall_mem_cons.mpr ⟨xw_g (mt_4 (i := 190) (by first | rfl | decide +kernel)) (by rfl) (by rfl), List.forall_mem_cons.mpr ⟨xw_g (mt_4 (i := 191) (by first | rfl | decide +kernel)) (by rfl) (by rfl), List.forall_mem_cons.mpr ⟨xw_g (mt_4 (i := 192) (by first | rfl | decide +kernel)) (by rfl) (by rfl), List.forall_mem_cons.mpr ⟨xw_n (by decide +kernel), List.forall_mem_cons.mpr ⟨xw_n (by decide +kernel), List.forall_mem_cons.mpr ⟨xw_g (mt_3 (i := 75) (by first | rfl | decide +kernel)) (by rfl) (by rfl), List.forall_mem_cons.mpr ⟨xw_g (mt_3 (i := 74) (by first | rfl | decide +kernel)) (by rfl) (by rfl), List.forall_mem_cons.mpr ⟨xw_g (mt_4 (i := 193) (by first | rfl | decide +kernel)) (by rfl) (by rfl), fun _ h => nomatch h⟩⟩⟩⟩⟩⟩⟩⟩⟩⟩⟩⟩⟩⟩
theorem xw_3 : ∀ w ∈ xc_atoms "MountSpaces" 178 "java/util/NoSuchElementException" 13 xc_six, XWP w := List.forall_mem_append.mpr ⟨List.forall_mem_append.mpr ⟨List.forall_mem_append.mpr ⟨xw_thr, xw_thrS⟩, List.forall_mem_append.mpr ⟨xw_p3, List.forall_mem_append.mpr ⟨xw_pR, xw_pE⟩⟩⟩, xw_r3⟩
theorem xw_all (i : Nat) (h : i < 4) : ∀ w ∈ (xc_atoms "MountSpaces" (exC9 i) (exN9 i) (exX9 i) (exR9 i)).filter vx_no, w ∈ lw_tbl ∧ (goodWord w = true ∨ sofW w = true) ∧ vx_ot w = true := by
  intro w hw
  obtain ⟨h1, h2⟩ := List.mem_filter.mp hw
  match i, h with
  | 0, _ => exact xw_0 w h1 h2
  | 1, _ => exact xw_1 w h1 h2
  | 2, _ => exact xw_2 w h1 h2
  | 3, _ => exact xw_3 w h1 h2
theorem xw_cast (i : Nat) (h : i < 4) : Cond.castable (exN9 i) (exN9 i) ∈ lw_tbl := by
  match i, h with
  | 0, _ => exact mt_3 (i := 56) (by first | rfl | decide +kernel)
  | 1, _ => exact mt_5 (i := 169) (by first | rfl | decide +kernel)
  | 2, _ => exact mt_4 (i := 150) (by first | rfl | decide +kernel)
  | 3, _ => exact mt_4 (i := 187) (by first | rfl | decide +kernel)
theorem xw_ini (i : Nat) (h : i < 4) : Cond.initialized (exN9 i) ∈ lw_tbl := by
  match i, h with
  | 0, _ => exact mt_1 (i := 16) (by first | rfl | decide +kernel)
  | 1, _ => exact mt_1 (i := 25) (by first | rfl | decide +kernel)
  | 2, _ => exact mt_1 (i := 23) (by first | rfl | decide +kernel)
  | 3, _ => exact mt_1 (i := 24) (by first | rfl | decide +kernel)
theorem xw_lU : Cond.laysStatic Bundle.tN "UNASSIGNED_STACK" Bundle.steD ∈ lw_tbl := mt_3 (i := 81) (by first | rfl | decide +kernel)
theorem xw_lN : Cond.laysStatic Bundle.tN "SUPPRESSED_SENTINEL" Bundle.listD ∈ lw_tbl := mt_3 (i := 83) (by first | rfl | decide +kernel)
theorem xw_iT : Cond.initialized Bundle.tN ∈ lw_tbl := mt_1 (i := 13) (by first | rfl | decide +kernel)
def xsL : List (Nat × String) := [(134, "the input buffer has no such length"), (139, "there is no such count"), (161, "there is no such volume"), (153, "there is no such directory"), (176, "there is no such mount"), (166, "nothing is told by this number"), (185, "there is no mount with this index"), (183, "the directory is not in the mount"), (216, "there is no such space"), (241, "there is no such byte"), (260, "there is no such kind"), (271, "there is only one space")]
theorem xs_all : ∀ e ∈ xsL, Cond.stringRef "MountSpaces" e.1 e.2 ∈ lw_tbl := List.forall_mem_cons.mpr ⟨mt_3 (i := 96) (by first | rfl | decide +kernel), List.forall_mem_cons.mpr ⟨mt_4 (i := 135) (by first | rfl | decide +kernel), List.forall_mem_cons.mpr ⟨mt_4 (i := 157) (by first | rfl | decide +kernel), List.forall_mem_cons.mpr ⟨mt_4 (i := 171) (by first | rfl | decide +kernel), List.forall_mem_cons.mpr ⟨mt_4 (i := 194) (by first | rfl | decide +kernel), List.forall_mem_cons.mpr ⟨mt_4 (i := 201) (by first | rfl | decide +kernel), List.forall_mem_cons.mpr ⟨mt_4 (i := 209) (by first | rfl | decide +kernel), List.forall_mem_cons.mpr ⟨mt_4 (i := 222) (by first | rfl | decide +kernel), List.forall_mem_cons.mpr ⟨mt_4 (i := 235) (by first | rfl | decide +kernel), List.forall_mem_cons.mpr ⟨mt_5 (i := 71) (by first | rfl | decide +kernel), List.forall_mem_cons.mpr ⟨mt_5 (i := 142) (by first | rfl | decide +kernel), List.forall_mem_cons.mpr ⟨mt_5 (i := 176) (by first | rfl | decide +kernel), fun _ h => nomatch h⟩⟩⟩⟩⟩⟩⟩⟩⟩⟩⟩⟩
/-- where a new exception is made: what follows -/
def siteC (K : List (Nat × Instr × Nat)) (pc e : Nat) : Bool := match fnd K (pc + 3), fnd K (pc + 4) with
  | some (.dup, _), some (.ldc is, _) => (fnd xsL is).isSome && (match fnd K (pc + 6), fnd K (pc + 9) with
    | some (.invokespecial ic, _), some (.athrow, _) => Nat.beq ic (exC9 e)
    | _, _ => false)
  | some (.dup, _), some (.ldc_w is, _) => (fnd xsL is).isSome && (match fnd K (pc + 7), fnd K (pc + 10) with
    | some (.invokespecial ic, _), some (.athrow, _) => Nat.beq ic (exC9 e)
    | _, _ => false)
  | _, _ => false
theorem site_all : (List.range 252).all (fun y => (code9 y).all (fun e => match e.2.1 with
  | .new k => (match fnd (cTL.getD (mcx y) []) k with
    | some (0, _, _, _, _) => true
    | some (_, x, _, _, _) => Nat.beq (mcx y) 10 && (mHan y).isEmpty && Nat.blt x 4 && siteC (code9 y) e.1 x
    | none => true)
  | _ => true)) = true := by decide +kernel
def clsOf (ct : Nat) : Nat := match fnd (cTL.getD 12 []) ct with
  | some (1, x, _, _, _) => x
  | _ => 9
def hnd3 : List (Nat × Nat × Nat × Nat) → Nat → Nat → Option Nat
  | [], _, _ => none
  | (x, f, t, hp) :: r, e, pc => bif Nat.beq x e && Nat.ble f pc && Nat.blt pc t then some hp else hnd3 r e pc
def rows9 (y : Nat) : List (Nat × Nat × Nat × Nat) := (mHan y).map fun z => (clsOf z.2.2.2, z.1, z.2.1, z.2.2.1)
theorem hnd3_of (y e pc : Nat) (L : List (Nat × Nat × Nat × Nat × Nat × Nat)) : (L.find? (fun q => Nat.beq q.1 y && Nat.beq q.2.1 e && Nat.ble q.2.2.1 pc && Nat.blt pc q.2.2.2.1)).map (fun q => q.2.2.2.2.1) = hnd3 ((L.filter (fun q => Nat.beq q.1 y)).map (fun q => (q.2.1, q.2.2.1, q.2.2.2.1, q.2.2.2.2.1))) e pc := by
  induction L with
  | nil => rfl
  | cons q r ih =>
    obtain ⟨a, b, c, d, f, g⟩ := q
    rw [List.find?_cons, List.filter_cons]
    cases h1 : Nat.beq a y with
    | false => simp only [Bool.false_and]; exact ih
    | true =>
      simp only [Bool.true_and, if_true, List.map_cons, hnd3]
      cases h2 : (Nat.beq b e && Nat.ble c pc && Nat.blt pc d) with
      | false => exact ih
      | true => rfl
theorem hrow_all : (List.range 252).all (fun y => decide ((hndL.filter (fun q => Nat.beq q.1 y)).map (fun q => (q.2.1, q.2.2.1, q.2.2.2.1, q.2.2.2.2.1)) = rows9 y) && (mHan y).all (fun z => Nat.blt (clsOf z.2.2.2) 4 && !(Nat.beq z.2.2.2 0)) && ((mHan y).isEmpty || Nat.beq (mcx y) 12)) = true := by decide +kernel
theorem hnd_eq {y : Nat} (hy : y < 252) (e pc : Nat) : hnd y e pc = hnd3 (rows9 y) e pc := by
  have h1 := List.all_eq_true.mp hrow_all y (List.mem_range.mpr hy)
  simp only [Bool.and_eq_true, decide_eq_true_eq] at h1
  unfold hnd
  rw [hnd3_of, h1.1.1]
end
