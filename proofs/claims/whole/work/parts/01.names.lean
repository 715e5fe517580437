-- ===== PART A: goes FIRST, ahead of the names: the tables' words, and 'selects' of the private methods out of them =====
/-- a private method of a class that the tables say can be made, by its rows of tables_1 -/
def lw_okq (q : MethodName × Nat) : Prop := (q.1.cls ≠ "java/lang/invoke/MethodHandle" ∧ q.1.cls ≠ "java/lang/invoke/VarHandle") ∧ Cond.instantiable q.1.cls q.2 ∈ tables_1 ∧ Cond.privateMethod q.1 ∈ tables_1 ∧ Cond.instanceMethod q.1 ∈ tables_1
theorem lw_p0 : lw_okq (⟨"AheadPlanner", "replayWith", "(IIII)V"⟩, 7) := ⟨⟨by decide +kernel, by decide +kernel⟩, List.mem_of_getElem? (i := 14) (by decide +kernel), List.mem_of_getElem? (i := 652) (by decide +kernel), List.mem_of_getElem? (i := 653) (by decide +kernel)⟩
theorem lw_p1 : lw_okq (⟨"AheadPlannerModel", "begin", "()V"⟩, 24) := ⟨⟨by decide +kernel, by decide +kernel⟩, List.mem_of_getElem? (i := 848) (by decide +kernel), List.mem_of_getElem? (i := 857) (by decide +kernel), List.mem_of_getElem? (i := 858) (by decide +kernel)⟩
theorem lw_p2 : lw_okq (⟨"AheadPlannerModel", "isTerm", "(II)Z"⟩, 24) := ⟨⟨by decide +kernel, by decide +kernel⟩, List.mem_of_getElem? (i := 848) (by decide +kernel), List.mem_of_getElem? (i := 952) (by decide +kernel), List.mem_of_getElem? (i := 953) (by decide +kernel)⟩
theorem lw_p3 : lw_okq (⟨"AheadPlannerModel", "isBlock", "(I)Z"⟩, 24) := ⟨⟨by decide +kernel, by decide +kernel⟩, List.mem_of_getElem? (i := 848) (by decide +kernel), List.mem_of_getElem? (i := 961) (by decide +kernel), List.mem_of_getElem? (i := 962) (by decide +kernel)⟩
theorem lw_p4 : lw_okq (⟨"AheadPlannerModel", "readOne", "(I)I"⟩, 24) := ⟨⟨by decide +kernel, by decide +kernel⟩, List.mem_of_getElem? (i := 848) (by decide +kernel), List.mem_of_getElem? (i := 965) (by decide +kernel), List.mem_of_getElem? (i := 966) (by decide +kernel)⟩
theorem lw_p5 : lw_okq (⟨"AheadPlannerModel", "place", "(I)I"⟩, 24) := ⟨⟨by decide +kernel, by decide +kernel⟩, List.mem_of_getElem? (i := 848) (by decide +kernel), List.mem_of_getElem? (i := 969) (by decide +kernel), List.mem_of_getElem? (i := 970) (by decide +kernel)⟩
theorem lw_p6 : lw_okq (⟨"AheadPlannerModel", "hits", "(I)V"⟩, 24) := ⟨⟨by decide +kernel, by decide +kernel⟩, List.mem_of_getElem? (i := 848) (by decide +kernel), List.mem_of_getElem? (i := 976) (by decide +kernel), List.mem_of_getElem? (i := 977) (by decide +kernel)⟩
theorem lw_p7 : lw_okq (⟨"AheadPlannerModel", "streamOf", "(I)I"⟩, 24) := ⟨⟨by decide +kernel, by decide +kernel⟩, List.mem_of_getElem? (i := 848) (by decide +kernel), List.mem_of_getElem? (i := 980) (by decide +kernel), List.mem_of_getElem? (i := 981) (by decide +kernel)⟩
theorem lw_p8 : lw_okq (⟨"AheadPlannerModel", "widens", "(II)V"⟩, 24) := ⟨⟨by decide +kernel, by decide +kernel⟩, List.mem_of_getElem? (i := 848) (by decide +kernel), List.mem_of_getElem? (i := 990) (by decide +kernel), List.mem_of_getElem? (i := 991) (by decide +kernel)⟩
theorem lw_p9 : lw_okq (⟨"AheadPlannerModel", "stamp", "()I"⟩, 24) := ⟨⟨by decide +kernel, by decide +kernel⟩, List.mem_of_getElem? (i := 848) (by decide +kernel), List.mem_of_getElem? (i := 994) (by decide +kernel), List.mem_of_getElem? (i := 995) (by decide +kernel)⟩
theorem lw_p10 : lw_okq (⟨"AheadPlannerModel", "put", "(III)V"⟩, 24) := ⟨⟨by decide +kernel, by decide +kernel⟩, List.mem_of_getElem? (i := 848) (by decide +kernel), List.mem_of_getElem? (i := 998) (by decide +kernel), List.mem_of_getElem? (i := 999) (by decide +kernel)⟩
theorem lw_p11 : lw_okq (⟨"AheadPlannerModel", "many", "()I"⟩, 24) := ⟨⟨by decide +kernel, by decide +kernel⟩, List.mem_of_getElem? (i := 848) (by decide +kernel), List.mem_of_getElem? (i := 1002) (by decide +kernel), List.mem_of_getElem? (i := 1003) (by decide +kernel)⟩
theorem lw_p12 : lw_okq (⟨"AheadPlannerModel", "whoGoes", "(I)I"⟩, 24) := ⟨⟨by decide +kernel, by decide +kernel⟩, List.mem_of_getElem? (i := 848) (by decide +kernel), List.mem_of_getElem? (i := 1006) (by decide +kernel), List.mem_of_getElem? (i := 1007) (by decide +kernel)⟩
theorem lw_p13 : lw_okq (⟨"AheadPlannerModel", "manyAhead", "()I"⟩, 24) := ⟨⟨by decide +kernel, by decide +kernel⟩, List.mem_of_getElem? (i := 848) (by decide +kernel), List.mem_of_getElem? (i := 1010) (by decide +kernel), List.mem_of_getElem? (i := 1011) (by decide +kernel)⟩
theorem lw_p14 : lw_okq (⟨"AheadPlannerModel", "mayGo", "(IIZ)Z"⟩, 24) := ⟨⟨by decide +kernel, by decide +kernel⟩, List.mem_of_getElem? (i := 848) (by decide +kernel), List.mem_of_getElem? (i := 1014) (by decide +kernel), List.mem_of_getElem? (i := 1015) (by decide +kernel)⟩
theorem lw_p15 : lw_okq (⟨"AheadPlannerModel", "goes", "(I)V"⟩, 24) := ⟨⟨by decide +kernel, by decide +kernel⟩, List.mem_of_getElem? (i := 848) (by decide +kernel), List.mem_of_getElem? (i := 1018) (by decide +kernel), List.mem_of_getElem? (i := 1019) (by decide +kernel)⟩
def lw_privs_1 : List (MethodName × Nat) := [(⟨"AheadPlanner", "replayWith", "(IIII)V"⟩, 7), (⟨"AheadPlannerModel", "begin", "()V"⟩, 24), (⟨"AheadPlannerModel", "isTerm", "(II)Z"⟩, 24), (⟨"AheadPlannerModel", "isBlock", "(I)Z"⟩, 24), (⟨"AheadPlannerModel", "readOne", "(I)I"⟩, 24), (⟨"AheadPlannerModel", "place", "(I)I"⟩, 24), (⟨"AheadPlannerModel", "hits", "(I)V"⟩, 24), (⟨"AheadPlannerModel", "streamOf", "(I)I"⟩, 24), (⟨"AheadPlannerModel", "widens", "(II)V"⟩, 24), (⟨"AheadPlannerModel", "stamp", "()I"⟩, 24), (⟨"AheadPlannerModel", "put", "(III)V"⟩, 24), (⟨"AheadPlannerModel", "many", "()I"⟩, 24), (⟨"AheadPlannerModel", "whoGoes", "(I)I"⟩, 24), (⟨"AheadPlannerModel", "manyAhead", "()I"⟩, 24), (⟨"AheadPlannerModel", "mayGo", "(IIZ)Z"⟩, 24), (⟨"AheadPlannerModel", "goes", "(I)V"⟩, 24)]
theorem lw_r1 : ∀ q ∈ lw_privs_1, lw_okq q := List.forall_mem_cons.mpr ⟨lw_p0, List.forall_mem_cons.mpr ⟨lw_p1, List.forall_mem_cons.mpr ⟨lw_p2, List.forall_mem_cons.mpr ⟨lw_p3, List.forall_mem_cons.mpr ⟨lw_p4, List.forall_mem_cons.mpr ⟨lw_p5, List.forall_mem_cons.mpr ⟨lw_p6, List.forall_mem_cons.mpr ⟨lw_p7, List.forall_mem_cons.mpr ⟨lw_p8, List.forall_mem_cons.mpr ⟨lw_p9, List.forall_mem_cons.mpr ⟨lw_p10, List.forall_mem_cons.mpr ⟨lw_p11, List.forall_mem_cons.mpr ⟨lw_p12, List.forall_mem_cons.mpr ⟨lw_p13, List.forall_mem_cons.mpr ⟨lw_p14, List.forall_mem_cons.mpr ⟨lw_p15, fun _ h => absurd h List.not_mem_nil⟩⟩⟩⟩⟩⟩⟩⟩⟩⟩⟩⟩⟩⟩⟩⟩
theorem lw_p16 : lw_okq (⟨"AheadPlannerModel", "finds", "(I)V"⟩, 24) := ⟨⟨by decide +kernel, by decide +kernel⟩, List.mem_of_getElem? (i := 848) (by decide +kernel), List.mem_of_getElem? (i := 1022) (by decide +kernel), List.mem_of_getElem? (i := 1023) (by decide +kernel)⟩
theorem lw_p17 : lw_okq (⟨"AheadPlannerModel", "steppedBy", "(I)I"⟩, 24) := ⟨⟨by decide +kernel, by decide +kernel⟩, List.mem_of_getElem? (i := 848) (by decide +kernel), List.mem_of_getElem? (i := 1026) (by decide +kernel), List.mem_of_getElem? (i := 1027) (by decide +kernel)⟩
theorem lw_p18 : lw_okq (⟨"AheadPlannerModel", "lastAt", "(I)I"⟩, 24) := ⟨⟨by decide +kernel, by decide +kernel⟩, List.mem_of_getElem? (i := 848) (by decide +kernel), List.mem_of_getElem? (i := 1030) (by decide +kernel), List.mem_of_getElem? (i := 1031) (by decide +kernel)⟩
theorem lw_p19 : lw_okq (⟨"AheadPlannerModel", "pairedBy", "(I)I"⟩, 24) := ⟨⟨by decide +kernel, by decide +kernel⟩, List.mem_of_getElem? (i := 848) (by decide +kernel), List.mem_of_getElem? (i := 1034) (by decide +kernel), List.mem_of_getElem? (i := 1035) (by decide +kernel)⟩
theorem lw_p20 : lw_okq (⟨"AheadPlannerModel", "comes", "(I)I"⟩, 24) := ⟨⟨by decide +kernel, by decide +kernel⟩, List.mem_of_getElem? (i := 848) (by decide +kernel), List.mem_of_getElem? (i := 1041) (by decide +kernel), List.mem_of_getElem? (i := 1042) (by decide +kernel)⟩
theorem lw_p21 : lw_okq (⟨"AheadPlannerModel", "newPlace", "()I"⟩, 24) := ⟨⟨by decide +kernel, by decide +kernel⟩, List.mem_of_getElem? (i := 848) (by decide +kernel), List.mem_of_getElem? (i := 1045) (by decide +kernel), List.mem_of_getElem? (i := 1046) (by decide +kernel)⟩
theorem lw_p22 : lw_okq (⟨"AheadPlannerModel", "goesOn", "(II)V"⟩, 24) := ⟨⟨by decide +kernel, by decide +kernel⟩, List.mem_of_getElem? (i := 848) (by decide +kernel), List.mem_of_getElem? (i := 1049) (by decide +kernel), List.mem_of_getElem? (i := 1050) (by decide +kernel)⟩
theorem lw_p23 : lw_okq (⟨"AheadPlannerModel", "proves", "(I)V"⟩, 24) := ⟨⟨by decide +kernel, by decide +kernel⟩, List.mem_of_getElem? (i := 848) (by decide +kernel), List.mem_of_getElem? (i := 1053) (by decide +kernel), List.mem_of_getElem? (i := 1054) (by decide +kernel)⟩
theorem lw_p24 : lw_okq (⟨"AheadPlannerModel", "batch", "(II)V"⟩, 24) := ⟨⟨by decide +kernel, by decide +kernel⟩, List.mem_of_getElem? (i := 848) (by decide +kernel), List.mem_of_getElem? (i := 1057) (by decide +kernel), List.mem_of_getElem? (i := 1058) (by decide +kernel)⟩
theorem lw_p25 : lw_okq (⟨"AheadPlannerModel", "fetchAhead", "(III)V"⟩, 24) := ⟨⟨by decide +kernel, by decide +kernel⟩, List.mem_of_getElem? (i := 848) (by decide +kernel), List.mem_of_getElem? (i := 1062) (by decide +kernel), List.mem_of_getElem? (i := 1063) (by decide +kernel)⟩
theorem lw_p26 : lw_okq (⟨"AheadPlannerModel", "isAheadOf", "(II)Z"⟩, 24) := ⟨⟨by decide +kernel, by decide +kernel⟩, List.mem_of_getElem? (i := 848) (by decide +kernel), List.mem_of_getElem? (i := 1066) (by decide +kernel), List.mem_of_getElem? (i := 1067) (by decide +kernel)⟩
theorem lw_p27 : lw_okq (⟨"AheadPlannerModel", "joins", "()V"⟩, 24) := ⟨⟨by decide +kernel, by decide +kernel⟩, List.mem_of_getElem? (i := 848) (by decide +kernel), List.mem_of_getElem? (i := 1070) (by decide +kernel), List.mem_of_getElem? (i := 1071) (by decide +kernel)⟩
theorem lw_p28 : lw_okq (⟨"AheadPlannerModel", "traces", "(II)V"⟩, 24) := ⟨⟨by decide +kernel, by decide +kernel⟩, List.mem_of_getElem? (i := 848) (by decide +kernel), List.mem_of_getElem? (i := 1074) (by decide +kernel), List.mem_of_getElem? (i := 1075) (by decide +kernel)⟩
theorem lw_p29 : lw_okq (⟨"AheadPlannerModel", "idles", "()Z"⟩, 24) := ⟨⟨by decide +kernel, by decide +kernel⟩, List.mem_of_getElem? (i := 848) (by decide +kernel), List.mem_of_getElem? (i := 1088) (by decide +kernel), List.mem_of_getElem? (i := 1089) (by decide +kernel)⟩
theorem lw_p30 : lw_okq (⟨"AheadPlannerModel", "aheadFor", "(I)I"⟩, 24) := ⟨⟨by decide +kernel, by decide +kernel⟩, List.mem_of_getElem? (i := 848) (by decide +kernel), List.mem_of_getElem? (i := 1092) (by decide +kernel), List.mem_of_getElem? (i := 1093) (by decide +kernel)⟩
theorem lw_p31 : lw_okq (⟨"AheadPlannerModel", "nextOf", "(I)I"⟩, 24) := ⟨⟨by decide +kernel, by decide +kernel⟩, List.mem_of_getElem? (i := 848) (by decide +kernel), List.mem_of_getElem? (i := 1096) (by decide +kernel), List.mem_of_getElem? (i := 1097) (by decide +kernel)⟩
def lw_privs_2 : List (MethodName × Nat) := [(⟨"AheadPlannerModel", "finds", "(I)V"⟩, 24), (⟨"AheadPlannerModel", "steppedBy", "(I)I"⟩, 24), (⟨"AheadPlannerModel", "lastAt", "(I)I"⟩, 24), (⟨"AheadPlannerModel", "pairedBy", "(I)I"⟩, 24), (⟨"AheadPlannerModel", "comes", "(I)I"⟩, 24), (⟨"AheadPlannerModel", "newPlace", "()I"⟩, 24), (⟨"AheadPlannerModel", "goesOn", "(II)V"⟩, 24), (⟨"AheadPlannerModel", "proves", "(I)V"⟩, 24), (⟨"AheadPlannerModel", "batch", "(II)V"⟩, 24), (⟨"AheadPlannerModel", "fetchAhead", "(III)V"⟩, 24), (⟨"AheadPlannerModel", "isAheadOf", "(II)Z"⟩, 24), (⟨"AheadPlannerModel", "joins", "()V"⟩, 24), (⟨"AheadPlannerModel", "traces", "(II)V"⟩, 24), (⟨"AheadPlannerModel", "idles", "()Z"⟩, 24), (⟨"AheadPlannerModel", "aheadFor", "(I)I"⟩, 24), (⟨"AheadPlannerModel", "nextOf", "(I)I"⟩, 24)]
theorem lw_r2 : ∀ q ∈ lw_privs_2, lw_okq q := List.forall_mem_cons.mpr ⟨lw_p16, List.forall_mem_cons.mpr ⟨lw_p17, List.forall_mem_cons.mpr ⟨lw_p18, List.forall_mem_cons.mpr ⟨lw_p19, List.forall_mem_cons.mpr ⟨lw_p20, List.forall_mem_cons.mpr ⟨lw_p21, List.forall_mem_cons.mpr ⟨lw_p22, List.forall_mem_cons.mpr ⟨lw_p23, List.forall_mem_cons.mpr ⟨lw_p24, List.forall_mem_cons.mpr ⟨lw_p25, List.forall_mem_cons.mpr ⟨lw_p26, List.forall_mem_cons.mpr ⟨lw_p27, List.forall_mem_cons.mpr ⟨lw_p28, List.forall_mem_cons.mpr ⟨lw_p29, List.forall_mem_cons.mpr ⟨lw_p30, List.forall_mem_cons.mpr ⟨lw_p31, fun _ h => absurd h List.not_mem_nil⟩⟩⟩⟩⟩⟩⟩⟩⟩⟩⟩⟩⟩⟩⟩⟩
theorem lw_p32 : lw_okq (⟨"AheadPlannerModel", "isStream", "(I)Z"⟩, 24) := ⟨⟨by decide +kernel, by decide +kernel⟩, List.mem_of_getElem? (i := 848) (by decide +kernel), List.mem_of_getElem? (i := 1123) (by decide +kernel), List.mem_of_getElem? (i := 1124) (by decide +kernel)⟩
theorem lw_p33 : lw_okq (⟨"AheadPlannerModel", "toCome", "(I)I"⟩, 24) := ⟨⟨by decide +kernel, by decide +kernel⟩, List.mem_of_getElem? (i := 848) (by decide +kernel), List.mem_of_getElem? (i := 1133) (by decide +kernel), List.mem_of_getElem? (i := 1134) (by decide +kernel)⟩
theorem lw_p34 : lw_okq (⟨"AheadPlannerModel", "lessThan", "(I)I"⟩, 24) := ⟨⟨by decide +kernel, by decide +kernel⟩, List.mem_of_getElem? (i := 848) (by decide +kernel), List.mem_of_getElem? (i := 1141) (by decide +kernel), List.mem_of_getElem? (i := 1142) (by decide +kernel)⟩
theorem lw_p35 : lw_okq (⟨"AheadPlannerModel", "isNext", "(I)Z"⟩, 24) := ⟨⟨by decide +kernel, by decide +kernel⟩, List.mem_of_getElem? (i := 848) (by decide +kernel), List.mem_of_getElem? (i := 1168) (by decide +kernel), List.mem_of_getElem? (i := 1169) (by decide +kernel)⟩
theorem lw_p36 : lw_okq (⟨"AheadPlannerModel", "traced", "(I)I"⟩, 24) := ⟨⟨by decide +kernel, by decide +kernel⟩, List.mem_of_getElem? (i := 848) (by decide +kernel), List.mem_of_getElem? (i := 1172) (by decide +kernel), List.mem_of_getElem? (i := 1173) (by decide +kernel)⟩
theorem lw_p37 : lw_okq (⟨"AheadPlannerModel", "numberAt", "(I)I"⟩, 24) := ⟨⟨by decide +kernel, by decide +kernel⟩, List.mem_of_getElem? (i := 848) (by decide +kernel), List.mem_of_getElem? (i := 1185) (by decide +kernel), List.mem_of_getElem? (i := 1186) (by decide +kernel)⟩
theorem lw_p38 : lw_okq (⟨"AheadPlannerModel", "unlikeBlocks", "()I"⟩, 24) := ⟨⟨by decide +kernel, by decide +kernel⟩, List.mem_of_getElem? (i := 848) (by decide +kernel), List.mem_of_getElem? (i := 1197) (by decide +kernel), List.mem_of_getElem? (i := 1198) (by decide +kernel)⟩
theorem lw_p39 : lw_okq (⟨"AheadPlannerModel", "between", "()I"⟩, 24) := ⟨⟨by decide +kernel, by decide +kernel⟩, List.mem_of_getElem? (i := 848) (by decide +kernel), List.mem_of_getElem? (i := 1201) (by decide +kernel), List.mem_of_getElem? (i := 1202) (by decide +kernel)⟩
theorem lw_p40 : lw_okq (⟨"AheadPlannerModel", "mostRead", "()I"⟩, 24) := ⟨⟨by decide +kernel, by decide +kernel⟩, List.mem_of_getElem? (i := 848) (by decide +kernel), List.mem_of_getElem? (i := 1205) (by decide +kernel), List.mem_of_getElem? (i := 1206) (by decide +kernel)⟩
theorem lw_p41 : lw_okq (⟨"AheadPlannerModel", "timesRead", "(I)I"⟩, 24) := ⟨⟨by decide +kernel, by decide +kernel⟩, List.mem_of_getElem? (i := 848) (by decide +kernel), List.mem_of_getElem? (i := 1209) (by decide +kernel), List.mem_of_getElem? (i := 1210) (by decide +kernel)⟩
theorem lw_p42 : lw_okq (⟨"AheadPlannerModel", "think", "()V"⟩, 24) := ⟨⟨by decide +kernel, by decide +kernel⟩, List.mem_of_getElem? (i := 848) (by decide +kernel), List.mem_of_getElem? (i := 1217) (by decide +kernel), List.mem_of_getElem? (i := 1218) (by decide +kernel)⟩
theorem lw_p43 : lw_okq (⟨"AheadPlannerModel", "endThought", "()V"⟩, 24) := ⟨⟨by decide +kernel, by decide +kernel⟩, List.mem_of_getElem? (i := 848) (by decide +kernel), List.mem_of_getElem? (i := 1221) (by decide +kernel), List.mem_of_getElem? (i := 1222) (by decide +kernel)⟩
theorem lw_p44 : lw_okq (⟨"AheadPlannerModel", "canReplay", "(II)Z"⟩, 24) := ⟨⟨by decide +kernel, by decide +kernel⟩, List.mem_of_getElem? (i := 848) (by decide +kernel), List.mem_of_getElem? (i := 1233) (by decide +kernel), List.mem_of_getElem? (i := 1234) (by decide +kernel)⟩
theorem lw_p45 : lw_okq (⟨"AheadPlannerModel", "tells", "(I)I"⟩, 24) := ⟨⟨by decide +kernel, by decide +kernel⟩, List.mem_of_getElem? (i := 848) (by decide +kernel), List.mem_of_getElem? (i := 1237) (by decide +kernel), List.mem_of_getElem? (i := 1238) (by decide +kernel)⟩
theorem lw_p46 : lw_okq (⟨"AheadPlannerModel", "streams", "(Z)I"⟩, 24) := ⟨⟨by decide +kernel, by decide +kernel⟩, List.mem_of_getElem? (i := 848) (by decide +kernel), List.mem_of_getElem? (i := 1241) (by decide +kernel), List.mem_of_getElem? (i := 1242) (by decide +kernel)⟩
theorem lw_p47 : lw_okq (⟨"AheadPlannerModel", "badOnes", "()I"⟩, 24) := ⟨⟨by decide +kernel, by decide +kernel⟩, List.mem_of_getElem? (i := 848) (by decide +kernel), List.mem_of_getElem? (i := 1245) (by decide +kernel), List.mem_of_getElem? (i := 1246) (by decide +kernel)⟩
def lw_privs_3 : List (MethodName × Nat) := [(⟨"AheadPlannerModel", "isStream", "(I)Z"⟩, 24), (⟨"AheadPlannerModel", "toCome", "(I)I"⟩, 24), (⟨"AheadPlannerModel", "lessThan", "(I)I"⟩, 24), (⟨"AheadPlannerModel", "isNext", "(I)Z"⟩, 24), (⟨"AheadPlannerModel", "traced", "(I)I"⟩, 24), (⟨"AheadPlannerModel", "numberAt", "(I)I"⟩, 24), (⟨"AheadPlannerModel", "unlikeBlocks", "()I"⟩, 24), (⟨"AheadPlannerModel", "between", "()I"⟩, 24), (⟨"AheadPlannerModel", "mostRead", "()I"⟩, 24), (⟨"AheadPlannerModel", "timesRead", "(I)I"⟩, 24), (⟨"AheadPlannerModel", "think", "()V"⟩, 24), (⟨"AheadPlannerModel", "endThought", "()V"⟩, 24), (⟨"AheadPlannerModel", "canReplay", "(II)Z"⟩, 24), (⟨"AheadPlannerModel", "tells", "(I)I"⟩, 24), (⟨"AheadPlannerModel", "streams", "(Z)I"⟩, 24), (⟨"AheadPlannerModel", "badOnes", "()I"⟩, 24)]
theorem lw_r3 : ∀ q ∈ lw_privs_3, lw_okq q := List.forall_mem_cons.mpr ⟨lw_p32, List.forall_mem_cons.mpr ⟨lw_p33, List.forall_mem_cons.mpr ⟨lw_p34, List.forall_mem_cons.mpr ⟨lw_p35, List.forall_mem_cons.mpr ⟨lw_p36, List.forall_mem_cons.mpr ⟨lw_p37, List.forall_mem_cons.mpr ⟨lw_p38, List.forall_mem_cons.mpr ⟨lw_p39, List.forall_mem_cons.mpr ⟨lw_p40, List.forall_mem_cons.mpr ⟨lw_p41, List.forall_mem_cons.mpr ⟨lw_p42, List.forall_mem_cons.mpr ⟨lw_p43, List.forall_mem_cons.mpr ⟨lw_p44, List.forall_mem_cons.mpr ⟨lw_p45, List.forall_mem_cons.mpr ⟨lw_p46, List.forall_mem_cons.mpr ⟨lw_p47, fun _ h => absurd h List.not_mem_nil⟩⟩⟩⟩⟩⟩⟩⟩⟩⟩⟩⟩⟩⟩⟩⟩
theorem lw_p48 : lw_okq (⟨"AheadPlannerModel", "takeTrace", "()V"⟩, 24) := ⟨⟨by decide +kernel, by decide +kernel⟩, List.mem_of_getElem? (i := 848) (by decide +kernel), List.mem_of_getElem? (i := 1250) (by decide +kernel), List.mem_of_getElem? (i := 1251) (by decide +kernel)⟩
theorem lw_p49 : lw_okq (⟨"AheadPlannerModel", "readAnew", "()V"⟩, 24) := ⟨⟨by decide +kernel, by decide +kernel⟩, List.mem_of_getElem? (i := 848) (by decide +kernel), List.mem_of_getElem? (i := 1254) (by decide +kernel), List.mem_of_getElem? (i := 1255) (by decide +kernel)⟩
theorem lw_p50 : lw_okq (⟨"AheadPlannerModel", "missesBy", "(II)I"⟩, 24) := ⟨⟨by decide +kernel, by decide +kernel⟩, List.mem_of_getElem? (i := 848) (by decide +kernel), List.mem_of_getElem? (i := 1274) (by decide +kernel), List.mem_of_getElem? (i := 1275) (by decide +kernel)⟩
theorem lw_p51 : lw_okq (⟨"AheadPlannerModel", "outOf", "(II)I"⟩, 24) := ⟨⟨by decide +kernel, by decide +kernel⟩, List.mem_of_getElem? (i := 848) (by decide +kernel), List.mem_of_getElem? (i := 1278) (by decide +kernel), List.mem_of_getElem? (i := 1279) (by decide +kernel)⟩
theorem lw_p52 : lw_okq (⟨"AheadPlannerModel", "againAt", "(II)I"⟩, 24) := ⟨⟨by decide +kernel, by decide +kernel⟩, List.mem_of_getElem? (i := 848) (by decide +kernel), List.mem_of_getElem? (i := 1282) (by decide +kernel), List.mem_of_getElem? (i := 1283) (by decide +kernel)⟩
theorem lw_p53 : lw_okq (⟨"AheadPlannerModel", "layRow", "(I)V"⟩, 24) := ⟨⟨by decide +kernel, by decide +kernel⟩, List.mem_of_getElem? (i := 848) (by decide +kernel), List.mem_of_getElem? (i := 1296) (by decide +kernel), List.mem_of_getElem? (i := 1297) (by decide +kernel)⟩
theorem lw_p54 : lw_okq (⟨"AheadPlannerModel", "isRead", "(II)Z"⟩, 24) := ⟨⟨by decide +kernel, by decide +kernel⟩, List.mem_of_getElem? (i := 848) (by decide +kernel), List.mem_of_getElem? (i := 1300) (by decide +kernel), List.mem_of_getElem? (i := 1301) (by decide +kernel)⟩
def lw_privs_4 : List (MethodName × Nat) := [(⟨"AheadPlannerModel", "takeTrace", "()V"⟩, 24), (⟨"AheadPlannerModel", "readAnew", "()V"⟩, 24), (⟨"AheadPlannerModel", "missesBy", "(II)I"⟩, 24), (⟨"AheadPlannerModel", "outOf", "(II)I"⟩, 24), (⟨"AheadPlannerModel", "againAt", "(II)I"⟩, 24), (⟨"AheadPlannerModel", "layRow", "(I)V"⟩, 24), (⟨"AheadPlannerModel", "isRead", "(II)Z"⟩, 24)]
theorem lw_r4 : ∀ q ∈ lw_privs_4, lw_okq q := List.forall_mem_cons.mpr ⟨lw_p48, List.forall_mem_cons.mpr ⟨lw_p49, List.forall_mem_cons.mpr ⟨lw_p50, List.forall_mem_cons.mpr ⟨lw_p51, List.forall_mem_cons.mpr ⟨lw_p52, List.forall_mem_cons.mpr ⟨lw_p53, List.forall_mem_cons.mpr ⟨lw_p54, fun _ h => absurd h List.not_mem_nil⟩⟩⟩⟩⟩⟩⟩
def lw_privs : List (MethodName × Nat) := lw_privs_1 ++ (lw_privs_2 ++ (lw_privs_3 ++ (lw_privs_4)))
def lw_tbl : List Cond := k2_sels lw_privs ++ tables_1
theorem lw_privs_ok : ∀ q ∈ lw_privs, lw_okq q := by
  show ∀ q ∈ lw_privs_1 ++ (lw_privs_2 ++ (lw_privs_3 ++ (lw_privs_4))), lw_okq q
  exact List.forall_mem_append.mpr ⟨lw_r1, List.forall_mem_append.mpr ⟨lw_r2, List.forall_mem_append.mpr ⟨lw_r3, lw_r4⟩⟩⟩
/-! ===== BEGIN words of one list among another's, by their places ===== -/
theorem goodIn_r {big : List Cond} (ws : List Cond) (ps : List Nat) (hp : ws = ps.filterMap (fun i => big[i]?)) (h : ws.all goodWord = true) : GoodIn big ws := by
  intro w hw
  have h1 := List.all_eq_true.mp h w hw
  rw [hp] at hw
  obtain ⟨i, -, hi⟩ := List.mem_filterMap.mp hw
  have hm : w ∈ big := by first | exact List.mem_of_getElem? hi | exact List.getElem?_mem hi
  exact ⟨hm, good_of_word h1⟩
theorem goodIn_app {big a b : List Cond} (ha : GoodIn big a) (hb : GoodIn big b) : GoodIn big (a ++ b) := fun w h => (List.mem_append.mp h).elim (ha w) (hb w)
theorem goodIn_ca {big a b : List Cond} {c : Cond} (ha : GoodIn big (c :: a)) (hb : GoodIn big b) : GoodIn big (c :: (a ++ b)) := fun w h => (List.mem_cons.mp h).elim (fun e => ha w (List.mem_cons.mpr (Or.inl e))) (fun h => (List.mem_append.mp h).elim (fun h => ha w (List.mem_cons.mpr (Or.inr h))) (hb w))
theorem goodIn_sub {big ws : List Cond} (hm : ∀ w ∈ ws, w ∈ big) (h : ws.all goodWord = true) : GoodIn big ws := fun w hw => ⟨hm w hw, good_of_word (List.all_eq_true.mp h w hw)⟩
/-! ===== END ===== -/

def RX0 : String := "AheadPlanner$Cache"
def TX0 : u_T := fun k => match k with
  | 0 => ("AheadPlanner$Cache", "blocks", "[I", true)
  | 1 => ("AheadPlanner$Cache", "stamps", "[I", true)
  | 2 => ("AheadPlanner$Cache", "touched", "[I", true)
  | 3 => ("AheadPlanner$Cache", "owners", "[I", true)
  | 4 => ("AheadPlanner$Cache", "fetchedAt", "[I", true)
  | 5 => ("AheadPlanner$Cache", "waiting", "[Z", true)
  | 6 => ("AheadPlanner$Cache", "where", "[I", true)
  | 7 => ("AheadPlanner$Cache", "size", "I", false)
  | 8 => ("AheadPlanner$Cache", "waitingSize", "I", false)
  | _ => ("AheadPlanner$Cache", "stamp", "I", false)
def tyX0 : Nat → FieldType := fun k => match k with
  | 0 => .array .int
  | 1 => .array .int
  | 2 => .array .int
  | 3 => .array .int
  | 4 => .array .int
  | 5 => .array .boolean
  | 6 => .array .int
  | 7 => .int
  | 8 => .int
  | _ => .int
abbrev wsX00 : List Cond := u_ws RX0 TX0 10
theorem nmX0 : ∀ a, a < 10 → ∀ b, b < 10 → a ≠ b → (TX0 a).2.1 ≠ (TX0 b).2.1 := by decide +kernel
theorem tyX0_ok : ∀ k, k < 10 → parseFieldDescriptor (TX0 k).2.2.1 = some (tyX0 k) := by decide +kernel
abbrev cX0_init : ByteArray := prog_2_method_1_code
def yX0_init : MethodName := ⟨RX0, "<init>", "()V"⟩
abbrev cX0_slotOf : ByteArray := prog_2_method_2_code
def yX0_slotOf : MethodName := ⟨RX0, "slotOf", "(I)I"⟩
abbrev cX0_mark : ByteArray := prog_2_method_3_code
def yX0_mark : MethodName := ⟨RX0, "mark", "(II)V"⟩
abbrev cX0_put : ByteArray := prog_2_method_4_code
def yX0_put : MethodName := ⟨RX0, "put", "(III)V"⟩
abbrev cX0_touch : ByteArray := prog_2_method_5_code
def yX0_touch : MethodName := ⟨RX0, "touch", "(I)Z"⟩
abbrev cX0_makeRoom : ByteArray := prog_2_method_6_code
def yX0_makeRoom : MethodName := ⟨RX0, "makeRoom", "(III)I"⟩
abbrev cX0_takeOut : ByteArray := prog_2_method_7_code
def yX0_takeOut : MethodName := ⟨RX0, "takeOut", "(I)I"⟩
abbrev cX0_toCome : ByteArray := prog_2_method_8_code
def yX0_toCome : MethodName := ⟨RX0, "toCome", "(III)I"⟩
abbrev cX0_waitingFor : ByteArray := prog_2_method_9_code
def yX0_waitingFor : MethodName := ⟨RX0, "waitingFor", "(I)I"⟩
abbrev cX0_isWaitingFor : ByteArray := prog_2_method_10_code
def yX0_isWaitingFor : MethodName := ⟨RX0, "isWaitingFor", "(II)Z"⟩
abbrev cX0_waitingBeyond : ByteArray := prog_2_method_11_code
def yX0_waitingBeyond : MethodName := ⟨RX0, "waitingBeyond", "(LAheadPlanner$Stream;I)I"⟩
abbrev cX0_rankOf : ByteArray := prog_2_method_12_code
def yX0_rankOf : MethodName := ⟨RX0, "rankOf", "(I)I"⟩
abbrev cX0_blockByStamp : ByteArray := prog_2_method_13_code
def yX0_blockByStamp : MethodName := ⟨RX0, "blockByStamp", "(I)I"⟩
abbrev cX0_clear : ByteArray := prog_2_method_14_code
def yX0_clear : MethodName := ⟨RX0, "clear", "()V"⟩
abbrev cX0_copyFrom : ByteArray := prog_2_method_15_code
def yX0_copyFrom : MethodName := ⟨RX0, "copyFrom", "(LAheadPlanner$Cache;)V"⟩
def RX1 : String := "AheadPlanner$Disk"
def TX1 : u_T := fun k => match k with
  | _ => ("AheadPlanner$Disk", "cells", "[I", true)
def tyX1 : Nat → FieldType := fun k => match k with
  | _ => .array .int
abbrev wsX10 : List Cond := u_ws RX1 TX1 1
theorem nmX1 : ∀ a, a < 1 → ∀ b, b < 1 → a ≠ b → (TX1 a).2.1 ≠ (TX1 b).2.1 := by decide +kernel
theorem tyX1_ok : ∀ k, k < 1 → parseFieldDescriptor (TX1 k).2.2.1 = some (tyX1 k) := by decide +kernel
abbrev cX1_init : ByteArray := prog_3_method_1_code
def yX1_init : MethodName := ⟨RX1, "<init>", "()V"⟩
abbrev cX1_format : ByteArray := prog_3_method_2_code
def yX1_format : MethodName := ⟨RX1, "format", "()V"⟩
abbrev cX1_contentOf : ByteArray := prog_3_method_3_code
def yX1_contentOf : MethodName := ⟨RX1, "contentOf", "(I)I"⟩
abbrev cX1_isBad : ByteArray := prog_3_method_4_code
def yX1_isBad : MethodName := ⟨RX1, "isBad", "(I)Z"⟩
abbrev cX1_setContent : ByteArray := prog_3_method_5_code
def yX1_setContent : MethodName := ⟨RX1, "setContent", "(II)V"⟩
abbrev cX1_turn : ByteArray := prog_3_method_6_code
def yX1_turn : MethodName := ⟨RX1, "turn", "(I)V"⟩
abbrev cX1_badBelow : ByteArray := prog_3_method_7_code
def yX1_badBelow : MethodName := ⟨RX1, "badBelow", "(I)I"⟩
abbrev cX1_copyFrom : ByteArray := prog_3_method_8_code
def yX1_copyFrom : MethodName := ⟨RX1, "copyFrom", "(LAheadPlanner$Disk;)V"⟩
def RX2 : String := "AheadPlanner$Engine"
def TX2 : u_T := fun k => match k with
  | 0 => ("AheadPlanner$Engine", "disk", "LAheadPlanner$Disk;", true)
  | 1 => ("AheadPlanner$Engine", "terms", "[I", true)
  | 2 => ("AheadPlanner$Engine", "counts", "[I", true)
  | 3 => ("AheadPlanner$Engine", "cache", "LAheadPlanner$Cache;", true)
  | 4 => ("AheadPlanner$Engine", "streams", "[LAheadPlanner$Stream;", true)
  | 5 => ("AheadPlanner$Engine", "history", "LAheadPlanner$History;", true)
  | 6 => ("AheadPlanner$Engine", "log", "LAheadPlanner$WindowLog;", true)
  | 7 => ("AheadPlanner$Engine", "planned", "[I", true)
  | 8 => ("AheadPlanner$Engine", "plannedSize", "I", false)
  | _ => ("AheadPlanner$Engine", "ownPlace", "I", false)
def tyX2 : Nat → FieldType := fun k => match k with
  | 0 => .object "AheadPlanner$Disk"
  | 1 => .array .int
  | 2 => .array .int
  | 3 => .object "AheadPlanner$Cache"
  | 4 => .array (.object "AheadPlanner$Stream")
  | 5 => .object "AheadPlanner$History"
  | 6 => .object "AheadPlanner$WindowLog"
  | 7 => .array .int
  | 8 => .int
  | _ => .int
abbrev wsX20 : List Cond := u_ws RX2 TX2 10
theorem nmX2 : ∀ a, a < 10 → ∀ b, b < 10 → a ≠ b → (TX2 a).2.1 ≠ (TX2 b).2.1 := by decide +kernel
theorem tyX2_ok : ∀ k, k < 10 → parseFieldDescriptor (TX2 k).2.2.1 = some (tyX2 k) := by decide +kernel
abbrev cX2_init : ByteArray := prog_4_method_1_code
def yX2_init : MethodName := ⟨RX2, "<init>", "(LAheadPlanner$Disk;)V"⟩
abbrev cX2_term : ByteArray := prog_4_method_2_code
def yX2_term : MethodName := ⟨RX2, "term", "(I)I"⟩
abbrev cX2_setTerm : ByteArray := prog_4_method_3_code
def yX2_setTerm : MethodName := ⟨RX2, "setTerm", "(II)V"⟩
abbrev cX2_hasBlock : ByteArray := prog_4_method_4_code
def yX2_hasBlock : MethodName := ⟨RX2, "hasBlock", "(I)Z"⟩
abbrev cX2_streamAt : ByteArray := prog_4_method_5_code
def yX2_streamAt : MethodName := ⟨RX2, "streamAt", "(I)LAheadPlanner$Stream;"⟩
abbrev cX2_restart : ByteArray := prog_4_method_6_code
def yX2_restart : MethodName := ⟨RX2, "restart", "()V"⟩
abbrev cX2_copyTerms : ByteArray := prog_4_method_7_code
def yX2_copyTerms : MethodName := ⟨RX2, "copyTerms", "(LAheadPlanner$Engine;)V"⟩
abbrev cX2_copyFrom : ByteArray := prog_4_method_8_code
def yX2_copyFrom : MethodName := ⟨RX2, "copyFrom", "(LAheadPlanner$Engine;)V"⟩
abbrev cX2_take : ByteArray := prog_4_method_9_code
def yX2_take : MethodName := ⟨RX2, "take", "(I)I"⟩
abbrev cX2_admit : ByteArray := prog_4_method_10_code
/-- the Engine's method that a hand-in's list of words doesn't let us spell: its name out of the statement's own table -/
def yX2_admit : MethodName := ⟨RX2, (match (tables_1_2[108]? : Option Cond) with | some (Cond.methodLink _ _ y) => y.name | _ => ""), "(I)V"⟩
abbrev cX2_hit : ByteArray := prog_4_method_11_code
def yX2_hit : MethodName := ⟨RX2, "hit", "(I)V"⟩
abbrev cX2_streamOf : ByteArray := prog_4_method_12_code
def yX2_streamOf : MethodName := ⟨RX2, "streamOf", "(I)LAheadPlanner$Stream;"⟩
abbrev cX2_changeWindow : ByteArray := prog_4_method_13_code
def yX2_changeWindow : MethodName := ⟨RX2, "changeWindow", "(LAheadPlanner$Stream;I)V"⟩
abbrev cX2_waste : ByteArray := prog_4_method_14_code
def yX2_waste : MethodName := ⟨RX2, "waste", "(I)V"⟩
abbrev cX2_findStream : ByteArray := prog_4_method_15_code
def yX2_findStream : MethodName := ⟨RX2, "findStream", "(I)I"⟩
abbrev cX2_steppingPlace : ByteArray := prog_4_method_16_code
def yX2_steppingPlace : MethodName := ⟨RX2, "steppingPlace", "(I)I"⟩
abbrev cX2_placeWithLast : ByteArray := prog_4_method_17_code
def yX2_placeWithLast : MethodName := ⟨RX2, "placeWithLast", "(I)I"⟩
abbrev cX2_pairingPlace : ByteArray := prog_4_method_18_code
def yX2_pairingPlace : MethodName := ⟨RX2, "pairingPlace", "(I)I"⟩
abbrev cX2_openPlace : ByteArray := prog_4_method_19_code
def yX2_openPlace : MethodName := ⟨RX2, "openPlace", "()I"⟩
abbrev cX2_settle : ByteArray := prog_4_method_20_code
def yX2_settle : MethodName := ⟨RX2, "settle", "(II)V"⟩
abbrev cX2_asksForBatch : ByteArray := prog_4_method_21_code
def yX2_asksForBatch : MethodName := ⟨RX2, "asksForBatch", "(LAheadPlanner$Stream;)Z"⟩
abbrev cX2_runBatch : ByteArray := prog_4_method_22_code
def yX2_runBatch : MethodName := ⟨RX2, "runBatch", "(LAheadPlanner$Stream;I)V"⟩
abbrev cX2_mayGoTo : ByteArray := prog_4_method_23_code
def yX2_mayGoTo : MethodName := ⟨RX2, "mayGoTo", "(I)Z"⟩
abbrev cX2_fetchFor : ByteArray := prog_4_method_24_code
def yX2_fetchFor : MethodName := ⟨RX2, "fetchFor", "(LAheadPlanner$Stream;II)V"⟩
abbrev cX2_plannedAt : ByteArray := prog_4_method_25_code
def yX2_plannedAt : MethodName := ⟨RX2, "plannedAt", "(I)I"⟩
abbrev cX2_joinOthers : ByteArray := prog_4_method_26_code
def yX2_joinOthers : MethodName := ⟨RX2, "joinOthers", "(LAheadPlanner$Stream;)V"⟩
abbrev cX2_follow : ByteArray := prog_4_method_27_code
def yX2_follow : MethodName := ⟨RX2, "follow", "(II)I"⟩
abbrev cX2_idleOnce : ByteArray := prog_4_method_28_code
def yX2_idleOnce : MethodName := ⟨RX2, "idleOnce", "()Z"⟩
abbrev cX2_nextToFetch : ByteArray := prog_4_method_29_code
def yX2_nextToFetch : MethodName := ⟨RX2, "nextToFetch", "(LAheadPlanner$Stream;)I"⟩
abbrev cX2_counted : ByteArray := prog_4_method_30_code
def yX2_counted : MethodName := ⟨RX2, "counted", "(I)I"⟩
abbrev cX2_streamsThere : ByteArray := prog_4_method_31_code
def yX2_streamsThere : MethodName := ⟨RX2, "streamsThere", "(I)I"⟩
def RX3 : String := "AheadPlanner$History"
def TX3 : u_T := fun k => match k with
  | 0 => ("AheadPlanner$History", "blocks", "[I", true)
  | 1 => ("AheadPlanner$History", "numbers", "[I", true)
  | 2 => ("AheadPlanner$History", "kinds", "[I", true)
  | 3 => ("AheadPlanner$History", "eldest", "I", false)
  | _ => ("AheadPlanner$History", "length", "I", false)
def tyX3 : Nat → FieldType := fun k => match k with
  | 0 => .array .int
  | 1 => .array .int
  | 2 => .array .int
  | 3 => .int
  | _ => .int
abbrev wsX30 : List Cond := u_ws RX3 TX3 5
theorem nmX3 : ∀ a, a < 5 → ∀ b, b < 5 → a ≠ b → (TX3 a).2.1 ≠ (TX3 b).2.1 := by decide +kernel
theorem tyX3_ok : ∀ k, k < 5 → parseFieldDescriptor (TX3 k).2.2.1 = some (tyX3 k) := by decide +kernel
abbrev cX3_init : ByteArray := prog_5_method_1_code
def yX3_init : MethodName := ⟨RX3, "<init>", "()V"⟩
abbrev cX3_add : ByteArray := prog_5_method_2_code
def yX3_add : MethodName := ⟨RX3, "add", "(III)V"⟩
abbrev cX3_cellOf : ByteArray := prog_5_method_3_code
def yX3_cellOf : MethodName := ⟨RX3, "cellOf", "(I)I"⟩
abbrev cX3_fromLatest : ByteArray := prog_5_method_4_code
def yX3_fromLatest : MethodName := ⟨RX3, "fromLatest", "(I)I"⟩
abbrev cX3_blockAt : ByteArray := prog_5_method_5_code
def yX3_blockAt : MethodName := ⟨RX3, "blockAt", "(I)I"⟩
abbrev cX3_numberAt : ByteArray := prog_5_method_6_code
def yX3_numberAt : MethodName := ⟨RX3, "numberAt", "(I)I"⟩
abbrev cX3_kindAt : ByteArray := prog_5_method_7_code
def yX3_kindAt : MethodName := ⟨RX3, "kindAt", "(I)I"⟩
abbrev cX3_clear : ByteArray := prog_5_method_8_code
def yX3_clear : MethodName := ⟨RX3, "clear", "()V"⟩
abbrev cX3_copyFrom : ByteArray := prog_5_method_9_code
def yX3_copyFrom : MethodName := ⟨RX3, "copyFrom", "(LAheadPlanner$History;)V"⟩
def RX4 : String := "AheadPlanner$Stream"
def TX4 : u_T := fun k => match k with
  | 0 => ("AheadPlanner$Stream", "number", "I", false)
  | 1 => ("AheadPlanner$Stream", "last", "I", false)
  | 2 => ("AheadPlanner$Stream", "stride", "I", false)
  | 3 => ("AheadPlanner$Stream", "proof", "I", false)
  | 4 => ("AheadPlanner$Stream", "window", "I", false)
  | 5 => ("AheadPlanner$Stream", "edge", "I", false)
  | 6 => ("AheadPlanner$Stream", "marker", "I", false)
  | 7 => ("AheadPlanner$Stream", "used", "I", false)
  | 8 => ("AheadPlanner$Stream", "fetched", "I", false)
  | 9 => ("AheadPlanner$Stream", "hits", "I", false)
  | _ => ("AheadPlanner$Stream", "wasted", "I", false)
def tyX4 : Nat → FieldType := fun k => match k with
  | 0 => .int
  | 1 => .int
  | 2 => .int
  | 3 => .int
  | 4 => .int
  | 5 => .int
  | 6 => .int
  | 7 => .int
  | 8 => .int
  | 9 => .int
  | _ => .int
abbrev wsX40 : List Cond := u_ws RX4 TX4 11
theorem nmX4 : ∀ a, a < 11 → ∀ b, b < 11 → a ≠ b → (TX4 a).2.1 ≠ (TX4 b).2.1 := by decide +kernel
theorem tyX4_ok : ∀ k, k < 11 → parseFieldDescriptor (TX4 k).2.2.1 = some (tyX4 k) := by decide +kernel
abbrev cX4_init : ByteArray := prog_6_method_1_code
def yX4_init : MethodName := ⟨RX4, "<init>", "()V"⟩
abbrev cX4_begin : ByteArray := prog_6_method_2_code
def yX4_begin : MethodName := ⟨RX4, "begin", "(II)V"⟩
abbrev cX4_leave : ByteArray := prog_6_method_3_code
def yX4_leave : MethodName := ⟨RX4, "leave", "()V"⟩
abbrev cX4_step : ByteArray := prog_6_method_4_code
def yX4_step : MethodName := ⟨RX4, "step", "(I)V"⟩
abbrev cX4_pair : ByteArray := prog_6_method_5_code
def yX4_pair : MethodName := ⟨RX4, "pair", "(I)V"⟩
abbrev cX4_wayTo : ByteArray := prog_6_method_6_code
def yX4_wayTo : MethodName := ⟨RX4, "wayTo", "(I)I"⟩
abbrev cX4_edgeIsBeyond : ByteArray := prog_6_method_7_code
def yX4_edgeIsBeyond : MethodName := ⟨RX4, "edgeIsBeyond", "(I)Z"⟩
abbrev cX4_tell : ByteArray := prog_6_method_8_code
def yX4_tell : MethodName := ⟨RX4, "tell", "(I)I"⟩
abbrev cX4_copyFrom : ByteArray := prog_6_method_9_code
def yX4_copyFrom : MethodName := ⟨RX4, "copyFrom", "(LAheadPlanner$Stream;)V"⟩
def RX5 : String := "AheadPlanner$Study"
def TX5 : u_T := fun k => match k with
  | 0 => ("AheadPlanner$Study", "history", "LAheadPlanner$History;", true)
  | 1 => ("AheadPlanner$Study", "tally", "[I", true)
  | 2 => ("AheadPlanner$Study", "nextRead", "[I", true)
  | 3 => ("AheadPlanner$Study", "held", "[I", true)
  | 4 => ("AheadPlanner$Study", "turns", "[I", true)
  | _ => ("AheadPlanner$Study", "rowStart", "I", false)
def tyX5 : Nat → FieldType := fun k => match k with
  | 0 => .object "AheadPlanner$History"
  | 1 => .array .int
  | 2 => .array .int
  | 3 => .array .int
  | 4 => .array .int
  | _ => .int
abbrev wsX50 : List Cond := u_ws RX5 TX5 6
theorem nmX5 : ∀ a, a < 6 → ∀ b, b < 6 → a ≠ b → (TX5 a).2.1 ≠ (TX5 b).2.1 := by decide +kernel
theorem tyX5_ok : ∀ k, k < 6 → parseFieldDescriptor (TX5 k).2.2.1 = some (tyX5 k) := by decide +kernel
abbrev cX5_init : ByteArray := prog_7_method_1_code
def yX5_init : MethodName := ⟨RX5, "<init>", "(LAheadPlanner$History;)V"⟩
abbrev cX5_tallyOf : ByteArray := prog_7_method_2_code
def yX5_tallyOf : MethodName := ⟨RX5, "tallyOf", "(I)I"⟩
abbrev cX5_setTally : ByteArray := prog_7_method_3_code
def yX5_setTally : MethodName := ⟨RX5, "setTally", "(II)V"⟩
abbrev cX5_clearTally : ByteArray := prog_7_method_4_code
def yX5_clearTally : MethodName := ⟨RX5, "clearTally", "()V"⟩
abbrev cX5_startsPiece : ByteArray := prog_7_method_5_code
def yX5_startsPiece : MethodName := ⟨RX5, "startsPiece", "(I)Z"⟩
abbrev cX5_pieces : ByteArray := prog_7_method_6_code
def yX5_pieces : MethodName := ⟨RX5, "pieces", "()I"⟩
abbrev cX5_pieceStart : ByteArray := prog_7_method_7_code
def yX5_pieceStart : MethodName := ⟨RX5, "pieceStart", "(I)I"⟩
abbrev cX5_pieceLength : ByteArray := prog_7_method_8_code
def yX5_pieceLength : MethodName := ⟨RX5, "pieceLength", "(I)I"⟩
abbrev cX5_longestPiece : ByteArray := prog_7_method_9_code
def yX5_longestPiece : MethodName := ⟨RX5, "longestPiece", "()I"⟩
abbrev cX5_changesOfStream : ByteArray := prog_7_method_10_code
def yX5_changesOfStream : MethodName := ⟨RX5, "changesOfStream", "()I"⟩
abbrev cX5_readsOfStream : ByteArray := prog_7_method_11_code
def yX5_readsOfStream : MethodName := ⟨RX5, "readsOfStream", "(II)I"⟩
abbrev cX5_streamsRead : ByteArray := prog_7_method_12_code
def yX5_streamsRead : MethodName := ⟨RX5, "streamsRead", "()I"⟩
abbrev cX5_mostOfOneStream : ByteArray := prog_7_method_13_code
def yX5_mostOfOneStream : MethodName := ⟨RX5, "mostOfOneStream", "()I"⟩
abbrev cX5_unlikeBlocks : ByteArray := prog_7_method_14_code
def yX5_unlikeBlocks : MethodName := ⟨RX5, "unlikeBlocks", "()I"⟩
abbrev cX5_sinceLatestBlock : ByteArray := prog_7_method_15_code
def yX5_sinceLatestBlock : MethodName := ⟨RX5, "sinceLatestBlock", "()I"⟩
abbrev cX5_favourite : ByteArray := prog_7_method_16_code
def yX5_favourite : MethodName := ⟨RX5, "favourite", "()I"⟩
abbrev cX5_timesRead : ByteArray := prog_7_method_17_code
def yX5_timesRead : MethodName := ⟨RX5, "timesRead", "(I)I"⟩
abbrev cX5_longestRow : ByteArray := prog_7_method_18_code
def yX5_longestRow : MethodName := ⟨RX5, "longestRow", "(I)I"⟩
abbrev cX5_slotHolding : ByteArray := prog_7_method_19_code
def yX5_slotHolding : MethodName := ⟨RX5, "slotHolding", "(II)I"⟩
abbrev cX5_hold : ByteArray := prog_7_method_20_code
def yX5_hold : MethodName := ⟨RX5, "hold", "(III)V"⟩
abbrev cX5_missesOfLatest : ByteArray := prog_7_method_21_code
def yX5_missesOfLatest : MethodName := ⟨RX5, "missesOfLatest", "(I)I"⟩
abbrev cX5_longestUnread : ByteArray := prog_7_method_22_code
def yX5_longestUnread : MethodName := ⟨RX5, "longestUnread", "(I)I"⟩
abbrev cX5_missesAtBest : ByteArray := prog_7_method_23_code
def yX5_missesAtBest : MethodName := ⟨RX5, "missesAtBest", "(I)I"⟩
abbrev cX5_lookAhead : ByteArray := prog_7_method_24_code
def yX5_lookAhead : MethodName := ⟨RX5, "lookAhead", "()V"⟩
abbrev cX5_lastReadAgain : ByteArray := prog_7_method_25_code
def yX5_lastReadAgain : MethodName := ⟨RX5, "lastReadAgain", "(I)I"⟩
def RX6 : String := "AheadPlanner$WindowLog"
def TX6 : u_T := fun k => match k with
  | 0 => ("AheadPlanner$WindowLog", "cells", "[I", true)
  | 1 => ("AheadPlanner$WindowLog", "next", "I", false)
  | _ => ("AheadPlanner$WindowLog", "length", "I", false)
def tyX6 : Nat → FieldType := fun k => match k with
  | 0 => .array .int
  | 1 => .int
  | _ => .int
abbrev wsX60 : List Cond := u_ws RX6 TX6 3
theorem nmX6 : ∀ a, a < 3 → ∀ b, b < 3 → a ≠ b → (TX6 a).2.1 ≠ (TX6 b).2.1 := by decide +kernel
theorem tyX6_ok : ∀ k, k < 3 → parseFieldDescriptor (TX6 k).2.2.1 = some (tyX6 k) := by decide +kernel
abbrev cX6_init : ByteArray := prog_8_method_1_code
def yX6_init : MethodName := ⟨RX6, "<init>", "()V"⟩
abbrev cX6_add : ByteArray := prog_8_method_2_code
def yX6_add : MethodName := ⟨RX6, "add", "(IIII)V"⟩
abbrev cX6_tell : ByteArray := prog_8_method_3_code
def yX6_tell : MethodName := ⟨RX6, "tell", "(II)I"⟩
abbrev cX6_clear : ByteArray := prog_8_method_4_code
def yX6_clear : MethodName := ⟨RX6, "clear", "()V"⟩
abbrev cX6_copyFrom : ByteArray := prog_8_method_5_code
def yX6_copyFrom : MethodName := ⟨RX6, "copyFrom", "(LAheadPlanner$WindowLog;)V"⟩
def RX7 : String := "AheadPlanner"
def TX7 : u_T := fun k => match k with
  | 0 => ("AheadPlanner", "disk", "LAheadPlanner$Disk;", true)
  | 1 => ("AheadPlanner", "now", "LAheadPlanner$Engine;", true)
  | 2 => ("AheadPlanner", "paper", "LAheadPlanner$Engine;", true)
  | 3 => ("AheadPlanner", "study", "LAheadPlanner$Study;", true)
  | 4 => ("AheadPlanner", "keptDisks", "[LAheadPlanner$Disk;", true)
  | 5 => ("AheadPlanner", "keptEngines", "[LAheadPlanner$Engine;", true)
  | _ => ("AheadPlanner", "isKept", "[Z", true)
def tyX7 : Nat → FieldType := fun k => match k with
  | 0 => .object "AheadPlanner$Disk"
  | 1 => .object "AheadPlanner$Engine"
  | 2 => .object "AheadPlanner$Engine"
  | 3 => .object "AheadPlanner$Study"
  | 4 => .array (.object "AheadPlanner$Disk")
  | 5 => .array (.object "AheadPlanner$Engine")
  | _ => .array .boolean
abbrev wsX70 : List Cond := u_ws RX7 TX7 7
theorem nmX7 : ∀ a, a < 7 → ∀ b, b < 7 → a ≠ b → (TX7 a).2.1 ≠ (TX7 b).2.1 := by decide +kernel
theorem tyX7_ok : ∀ k, k < 7 → parseFieldDescriptor (TX7 k).2.2.1 = some (tyX7 k) := by decide +kernel
abbrev cX7_init : ByteArray := prog_1_method_1_code
def yX7_init : MethodName := ⟨RX7, "<init>", "()V"⟩
abbrev cX7_sets : ByteArray := prog_1_method_2_code
def yX7_sets : MethodName := ⟨RX7, "sets", "(II)Z"⟩
abbrev cX7_read : ByteArray := prog_1_method_3_code
def yX7_read : MethodName := ⟨RX7, "read", "(I)I"⟩
abbrev cX7_reads : ByteArray := prog_1_method_4_code
def yX7_reads : MethodName := ⟨RX7, "reads", "(III)I"⟩
abbrev cX7_idle : ByteArray := prog_1_method_5_code
def yX7_idle : MethodName := ⟨RX7, "idle", "(I)I"⟩
abbrev cX7_advise : ByteArray := prog_1_method_6_code
def yX7_advise : MethodName := ⟨RX7, "advise", "(II)I"⟩
abbrev cX7_write : ByteArray := prog_1_method_7_code
def yX7_write : MethodName := ⟨RX7, "write", "(II)I"⟩
abbrev cX7_bad : ByteArray := prog_1_method_8_code
def yX7_bad : MethodName := ⟨RX7, "bad", "(IZ)Z"⟩
abbrev cX7_drop : ByteArray := prog_1_method_9_code
def yX7_drop : MethodName := ⟨RX7, "drop", "(I)Z"⟩
abbrev cX7_stop : ByteArray := prog_1_method_10_code
def yX7_stop : MethodName := ⟨RX7, "stop", "(I)I"⟩
abbrev cX7_keep : ByteArray := prog_1_method_11_code
def yX7_keep : MethodName := ⟨RX7, "keep", "(I)Z"⟩
abbrev cX7_again : ByteArray := prog_1_method_12_code
def yX7_again : MethodName := ⟨RX7, "again", "(I)Z"⟩
abbrev cX7_block : ByteArray := prog_1_method_13_code
def yX7_block : MethodName := ⟨RX7, "block", "(II)I"⟩
abbrev cX7_cached : ByteArray := prog_1_method_14_code
def yX7_cached : MethodName := ⟨RX7, "cached", "(I)I"⟩
abbrev cX7_stream : ByteArray := prog_1_method_15_code
def yX7_stream : MethodName := ⟨RX7, "stream", "(II)I"⟩
abbrev cX7_aheadOf : ByteArray := prog_1_method_16_code
def yX7_aheadOf : MethodName := ⟨RX7, "aheadOf", "(II)I"⟩
abbrev cX7_gain : ByteArray := prog_1_method_17_code
def yX7_gain : MethodName := ⟨RX7, "gain", "(I)I"⟩
abbrev cX7_log : ByteArray := prog_1_method_18_code
def yX7_log : MethodName := ⟨RX7, "log", "(II)I"⟩
abbrev cX7_piece : ByteArray := prog_1_method_19_code
def yX7_piece : MethodName := ⟨RX7, "piece", "(II)I"⟩
abbrev cX7_whose : ByteArray := prog_1_method_20_code
def yX7_whose : MethodName := ⟨RX7, "whose", "(II)I"⟩
abbrev cX7_mixed : ByteArray := prog_1_method_21_code
def yX7_mixed : MethodName := ⟨RX7, "mixed", "(I)I"⟩
abbrev cX7_trace : ByteArray := prog_1_method_22_code
def yX7_trace : MethodName := ⟨RX7, "trace", "(I)I"⟩
abbrev cX7_would : ByteArray := prog_1_method_23_code
def yX7_would : MethodName := ⟨RX7, "would", "(II)I"⟩
abbrev cX7_plan : ByteArray := prog_1_method_24_code
def yX7_plan : MethodName := ⟨RX7, "plan", "(II)I"⟩
abbrev cX7_replay : ByteArray := prog_1_method_25_code
def yX7_replay : MethodName := ⟨RX7, "replay", "(III)I"⟩
abbrev cX7_forecast : ByteArray := prog_1_method_26_code
def yX7_forecast : MethodName := ⟨RX7, "forecast", "(II)I"⟩
abbrev cX7_tune : ByteArray := prog_1_method_27_code
def yX7_tune : MethodName := ⟨RX7, "tune", "(I)I"⟩
abbrev cX7_best : ByteArray := prog_1_method_28_code
def yX7_best : MethodName := ⟨RX7, "best", "(II)I"⟩
abbrev cX7_misses : ByteArray := prog_1_method_29_code
def yX7_misses : MethodName := ⟨RX7, "misses", "(II)I"⟩
abbrev cX7_row : ByteArray := prog_1_method_30_code
def yX7_row : MethodName := ⟨RX7, "row", "(II)I"⟩
abbrev cX7_pace : ByteArray := prog_1_method_31_code
def yX7_pace : MethodName := ⟨RX7, "pace", "(I)I"⟩
abbrev cX7_until : ByteArray := prog_1_method_32_code
def yX7_until : MethodName := ⟨RX7, "until", "(I)I"⟩
abbrev cX7_ahead : ByteArray := prog_1_method_33_code
def yX7_ahead : MethodName := ⟨RX7, "ahead", "(I)I"⟩
abbrev cX7_habits : ByteArray := prog_1_method_34_code
def yX7_habits : MethodName := ⟨RX7, "habits", "(I)I"⟩
abbrev cX7_count : ByteArray := prog_1_method_35_code
def yX7_count : MethodName := ⟨RX7, "count", "(I)I"⟩
abbrev cX7_isTermValue : ByteArray := prog_1_method_36_code
def yX7_isTermValue : MethodName := ⟨RX7, "isTermValue", "(II)Z"⟩
abbrev cX7_replayWith : ByteArray := prog_1_method_37_code
def yX7_replayWith : MethodName := ⟨RX7, "replayWith", "(IIII)V"⟩
def RX8 : String := "AheadPlannerModel"
def TX8 : u_T := fun k => match k with
  | 0 => ("AheadPlannerModel", "thrown", "I", false)
  | 1 => ("AheadPlannerModel", "row", "[I", true)
  | 2 => ("AheadPlannerModel", "aside", "[I", true)
  | 3 => ("AheadPlannerModel", "kept", "[I", true)
  | 4 => ("AheadPlannerModel", "disk", "[I", true)
  | 5 => ("AheadPlannerModel", "isBad", "[Z", true)
  | 6 => ("AheadPlannerModel", "keptDisk", "[I", true)
  | 7 => ("AheadPlannerModel", "keptBad", "[Z", true)
  | 8 => ("AheadPlannerModel", "isKept", "[Z", true)
  | 9 => ("AheadPlannerModel", "leastTerm", "[I", true)
  | 10 => ("AheadPlannerModel", "mostTerm", "[I", true)
  | 11 => ("AheadPlannerModel", "how", "I", false)
  | 12 => ("AheadPlannerModel", "its", "I", false)
  | 13 => ("AheadPlannerModel", "plannedMany", "I", false)
  | 14 => ("AheadPlannerModel", "planned", "[I", true)
  | 15 => ("AheadPlannerModel", "sharedNow", "I", false)
  | 16 => ("AheadPlannerModel", "wastedNow", "I", false)
  | 17 => ("AheadPlannerModel", "anew", "[I", true)
  | 18 => ("AheadPlannerModel", "anewMany", "I", false)
  | 19 => ("AheadPlannerModel", "lies", "[I", true)
  | 20 => ("AheadPlannerModel", "when", "[I", true)
  | 21 => ("AheadPlannerModel", "endsBy", "[I", true)
  | 22 => ("AheadPlannerModel", "rowMany", "I", false)
  | _ => ("AheadPlannerModel", "rowFirst", "I", false)
def tyX8 : Nat → FieldType := fun k => match k with
  | 0 => .int
  | 1 => .array .int
  | 2 => .array .int
  | 3 => .array .int
  | 4 => .array .int
  | 5 => .array .boolean
  | 6 => .array .int
  | 7 => .array .boolean
  | 8 => .array .boolean
  | 9 => .array .int
  | 10 => .array .int
  | 11 => .int
  | 12 => .int
  | 13 => .int
  | 14 => .array .int
  | 15 => .int
  | 16 => .int
  | 17 => .array .int
  | 18 => .int
  | 19 => .array .int
  | 20 => .array .int
  | 21 => .array .int
  | 22 => .int
  | _ => .int
abbrev wsX80 : List Cond := u_ws RX8 TX8 24
theorem nmX8 : ∀ a, a < 24 → ∀ b, b < 24 → a ≠ b → (TX8 a).2.1 ≠ (TX8 b).2.1 := by decide +kernel
theorem tyX8_ok : ∀ k, k < 24 → parseFieldDescriptor (TX8 k).2.2.1 = some (tyX8 k) := by decide +kernel
abbrev cX8_init : ByteArray := prog_10_method_1_code
def yX8_init : MethodName := ⟨RX8, "<init>", "()V"⟩
abbrev cX8_in : ByteArray := prog_10_method_3_code
def yX8_in : MethodName := ⟨RX8, "in", "(JJJ)Z"⟩
abbrev cX8_lesser : ByteArray := prog_10_method_4_code
def yX8_lesser : MethodName := ⟨RX8, "lesser", "(II)I"⟩
abbrev cX8_size : ByteArray := prog_10_method_5_code
def yX8_size : MethodName := ⟨RX8, "size", "(I)I"⟩
abbrev cX8_copy : ByteArray := prog_10_method_6_code
def yX8_copy : MethodName := ⟨RX8, "copy", "([II[II)V"⟩
abbrev cX8_begin : ByteArray := prog_10_method_7_code
def yX8_begin : MethodName := ⟨RX8, "begin", "()V"⟩
abbrev cX8_keep : ByteArray := prog_10_method_8_code
def yX8_keep : MethodName := ⟨RX8, "keep", "(I)Z"⟩
abbrev cX8_again : ByteArray := prog_10_method_9_code
def yX8_again : MethodName := ⟨RX8, "again", "(I)Z"⟩
abbrev cX8_isTerm : ByteArray := prog_10_method_10_code
def yX8_isTerm : MethodName := ⟨RX8, "isTerm", "(II)Z"⟩
abbrev cX8_sets : ByteArray := prog_10_method_11_code
def yX8_sets : MethodName := ⟨RX8, "sets", "(II)Z"⟩
abbrev cX8_isBlock : ByteArray := prog_10_method_12_code
def yX8_isBlock : MethodName := ⟨RX8, "isBlock", "(I)Z"⟩
abbrev cX8_cacheAt : ByteArray := prog_10_method_13_code
def yX8_cacheAt : MethodName := ⟨RX8, "cacheAt", "(I)I"⟩
abbrev cX8_place : ByteArray := prog_10_method_14_code
def yX8_place : MethodName := ⟨RX8, "place", "(I)I"⟩
abbrev cX8_many : ByteArray := prog_10_method_15_code
def yX8_many : MethodName := ⟨RX8, "many", "()I"⟩
abbrev cX8_manyAhead : ByteArray := prog_10_method_16_code
def yX8_manyAhead : MethodName := ⟨RX8, "manyAhead", "()I"⟩
abbrev cX8_stamp : ByteArray := prog_10_method_17_code
def yX8_stamp : MethodName := ⟨RX8, "stamp", "()I"⟩
abbrev cX8_streamAt : ByteArray := prog_10_method_18_code
def yX8_streamAt : MethodName := ⟨RX8, "streamAt", "(I)I"⟩
abbrev cX8_streamOf : ByteArray := prog_10_method_19_code
def yX8_streamOf : MethodName := ⟨RX8, "streamOf", "(I)I"⟩
abbrev cX8_widens : ByteArray := prog_10_method_20_code
def yX8_widens : MethodName := ⟨RX8, "widens", "(II)V"⟩
abbrev cX8_goes : ByteArray := prog_10_method_21_code
def yX8_goes : MethodName := ⟨RX8, "goes", "(I)V"⟩
abbrev cX8_mayGo : ByteArray := prog_10_method_22_code
def yX8_mayGo : MethodName := ⟨RX8, "mayGo", "(IIZ)Z"⟩
abbrev cX8_whoGoes : ByteArray := prog_10_method_23_code
def yX8_whoGoes : MethodName := ⟨RX8, "whoGoes", "(I)I"⟩
abbrev cX8_put : ByteArray := prog_10_method_24_code
def yX8_put : MethodName := ⟨RX8, "put", "(III)V"⟩
abbrev cX8_toCome : ByteArray := prog_10_method_25_code
def yX8_toCome : MethodName := ⟨RX8, "toCome", "(I)I"⟩
abbrev cX8_isAheadOf : ByteArray := prog_10_method_26_code
def yX8_isAheadOf : MethodName := ⟨RX8, "isAheadOf", "(II)Z"⟩
abbrev cX8_fetchAhead : ByteArray := prog_10_method_27_code
def yX8_fetchAhead : MethodName := ⟨RX8, "fetchAhead", "(III)V"⟩
abbrev cX8_batch : ByteArray := prog_10_method_28_code
def yX8_batch : MethodName := ⟨RX8, "batch", "(II)V"⟩
abbrev cX8_steppedBy : ByteArray := prog_10_method_29_code
def yX8_steppedBy : MethodName := ⟨RX8, "steppedBy", "(I)I"⟩
abbrev cX8_lastAt : ByteArray := prog_10_method_30_code
def yX8_lastAt : MethodName := ⟨RX8, "lastAt", "(I)I"⟩
abbrev cX8_pairedBy : ByteArray := prog_10_method_31_code
def yX8_pairedBy : MethodName := ⟨RX8, "pairedBy", "(I)I"⟩
abbrev cX8_newPlace : ByteArray := prog_10_method_32_code
def yX8_newPlace : MethodName := ⟨RX8, "newPlace", "()I"⟩
abbrev cX8_comes : ByteArray := prog_10_method_33_code
def yX8_comes : MethodName := ⟨RX8, "comes", "(I)I"⟩
abbrev cX8_proves : ByteArray := prog_10_method_34_code
def yX8_proves : MethodName := ⟨RX8, "proves", "(I)V"⟩
abbrev cX8_goesOn : ByteArray := prog_10_method_35_code
def yX8_goesOn : MethodName := ⟨RX8, "goesOn", "(II)V"⟩
abbrev cX8_finds : ByteArray := prog_10_method_36_code
def yX8_finds : MethodName := ⟨RX8, "finds", "(I)V"⟩
abbrev cX8_joins : ByteArray := prog_10_method_37_code
def yX8_joins : MethodName := ⟨RX8, "joins", "()V"⟩
abbrev cX8_traces : ByteArray := prog_10_method_38_code
def yX8_traces : MethodName := ⟨RX8, "traces", "(II)V"⟩
abbrev cX8_hits : ByteArray := prog_10_method_39_code
def yX8_hits : MethodName := ⟨RX8, "hits", "(I)V"⟩
abbrev cX8_readOne : ByteArray := prog_10_method_40_code
def yX8_readOne : MethodName := ⟨RX8, "readOne", "(I)I"⟩
abbrev cX8_read : ByteArray := prog_10_method_41_code
def yX8_read : MethodName := ⟨RX8, "read", "(I)I"⟩
abbrev cX8_reads : ByteArray := prog_10_method_42_code
def yX8_reads : MethodName := ⟨RX8, "reads", "(III)I"⟩
abbrev cX8_aheadFor : ByteArray := prog_10_method_43_code
def yX8_aheadFor : MethodName := ⟨RX8, "aheadFor", "(I)I"⟩
abbrev cX8_nextOf : ByteArray := prog_10_method_44_code
def yX8_nextOf : MethodName := ⟨RX8, "nextOf", "(I)I"⟩
abbrev cX8_idles : ByteArray := prog_10_method_45_code
def yX8_idles : MethodName := ⟨RX8, "idles", "()Z"⟩
abbrev cX8_idle : ByteArray := prog_10_method_46_code
def yX8_idle : MethodName := ⟨RX8, "idle", "(I)I"⟩
abbrev cX8_advise : ByteArray := prog_10_method_47_code
def yX8_advise : MethodName := ⟨RX8, "advise", "(II)I"⟩
abbrev cX8_write : ByteArray := prog_10_method_48_code
def yX8_write : MethodName := ⟨RX8, "write", "(II)I"⟩
abbrev cX8_bad : ByteArray := prog_10_method_49_code
def yX8_bad : MethodName := ⟨RX8, "bad", "(IZ)Z"⟩
abbrev cX8_drop : ByteArray := prog_10_method_50_code
def yX8_drop : MethodName := ⟨RX8, "drop", "(I)Z"⟩
abbrev cX8_isStream : ByteArray := prog_10_method_51_code
def yX8_isStream : MethodName := ⟨RX8, "isStream", "(I)Z"⟩
abbrev cX8_stop : ByteArray := prog_10_method_52_code
def yX8_stop : MethodName := ⟨RX8, "stop", "(I)I"⟩
abbrev cX8_block : ByteArray := prog_10_method_53_code
def yX8_block : MethodName := ⟨RX8, "block", "(II)I"⟩
abbrev cX8_lessThan : ByteArray := prog_10_method_54_code
def yX8_lessThan : MethodName := ⟨RX8, "lessThan", "(I)I"⟩
abbrev cX8_cached : ByteArray := prog_10_method_55_code
def yX8_cached : MethodName := ⟨RX8, "cached", "(I)I"⟩
abbrev cX8_ahead : ByteArray := prog_10_method_56_code
def yX8_ahead : MethodName := ⟨RX8, "ahead", "(I)I"⟩
abbrev cX8_stream : ByteArray := prog_10_method_57_code
def yX8_stream : MethodName := ⟨RX8, "stream", "(II)I"⟩
abbrev cX8_aheadOf : ByteArray := prog_10_method_58_code
def yX8_aheadOf : MethodName := ⟨RX8, "aheadOf", "(II)I"⟩
abbrev cX8_log : ByteArray := prog_10_method_59_code
def yX8_log : MethodName := ⟨RX8, "log", "(II)I"⟩
abbrev cX8_traced : ByteArray := prog_10_method_60_code
def yX8_traced : MethodName := ⟨RX8, "traced", "(I)I"⟩
abbrev cX8_isNext : ByteArray := prog_10_method_61_code
def yX8_isNext : MethodName := ⟨RX8, "isNext", "(I)Z"⟩
abbrev cX8_piece : ByteArray := prog_10_method_62_code
def yX8_piece : MethodName := ⟨RX8, "piece", "(II)I"⟩
abbrev cX8_whose : ByteArray := prog_10_method_63_code
def yX8_whose : MethodName := ⟨RX8, "whose", "(II)I"⟩
abbrev cX8_numberAt : ByteArray := prog_10_method_64_code
def yX8_numberAt : MethodName := ⟨RX8, "numberAt", "(I)I"⟩
abbrev cX8_mixed : ByteArray := prog_10_method_65_code
def yX8_mixed : MethodName := ⟨RX8, "mixed", "(I)I"⟩
abbrev cX8_trace : ByteArray := prog_10_method_66_code
def yX8_trace : MethodName := ⟨RX8, "trace", "(I)I"⟩
abbrev cX8_timesRead : ByteArray := prog_10_method_67_code
def yX8_timesRead : MethodName := ⟨RX8, "timesRead", "(I)I"⟩
abbrev cX8_unlikeBlocks : ByteArray := prog_10_method_68_code
def yX8_unlikeBlocks : MethodName := ⟨RX8, "unlikeBlocks", "()I"⟩
abbrev cX8_between : ByteArray := prog_10_method_69_code
def yX8_between : MethodName := ⟨RX8, "between", "()I"⟩
abbrev cX8_mostRead : ByteArray := prog_10_method_70_code
def yX8_mostRead : MethodName := ⟨RX8, "mostRead", "()I"⟩
abbrev cX8_habits : ByteArray := prog_10_method_71_code
def yX8_habits : MethodName := ⟨RX8, "habits", "(I)I"⟩
abbrev cX8_think : ByteArray := prog_10_method_72_code
def yX8_think : MethodName := ⟨RX8, "think", "()V"⟩
abbrev cX8_endThought : ByteArray := prog_10_method_73_code
def yX8_endThought : MethodName := ⟨RX8, "endThought", "()V"⟩
abbrev cX8_would : ByteArray := prog_10_method_74_code
def yX8_would : MethodName := ⟨RX8, "would", "(II)I"⟩
abbrev cX8_plan : ByteArray := prog_10_method_75_code
def yX8_plan : MethodName := ⟨RX8, "plan", "(II)I"⟩
abbrev cX8_takeTrace : ByteArray := prog_10_method_76_code
def yX8_takeTrace : MethodName := ⟨RX8, "takeTrace", "()V"⟩
abbrev cX8_readAnew : ByteArray := prog_10_method_77_code
def yX8_readAnew : MethodName := ⟨RX8, "readAnew", "()V"⟩
abbrev cX8_canReplay : ByteArray := prog_10_method_78_code
def yX8_canReplay : MethodName := ⟨RX8, "canReplay", "(II)Z"⟩
abbrev cX8_replay : ByteArray := prog_10_method_79_code
def yX8_replay : MethodName := ⟨RX8, "replay", "(III)I"⟩
abbrev cX8_forecast : ByteArray := prog_10_method_80_code
def yX8_forecast : MethodName := ⟨RX8, "forecast", "(II)I"⟩
abbrev cX8_tune : ByteArray := prog_10_method_81_code
def yX8_tune : MethodName := ⟨RX8, "tune", "(I)I"⟩
abbrev cX8_best : ByteArray := prog_10_method_82_code
def yX8_best : MethodName := ⟨RX8, "best", "(II)I"⟩
abbrev cX8_againAt : ByteArray := prog_10_method_83_code
def yX8_againAt : MethodName := ⟨RX8, "againAt", "(II)I"⟩
abbrev cX8_outOf : ByteArray := prog_10_method_84_code
def yX8_outOf : MethodName := ⟨RX8, "outOf", "(II)I"⟩
abbrev cX8_missesBy : ByteArray := prog_10_method_85_code
def yX8_missesBy : MethodName := ⟨RX8, "missesBy", "(II)I"⟩
abbrev cX8_misses : ByteArray := prog_10_method_86_code
def yX8_misses : MethodName := ⟨RX8, "misses", "(II)I"⟩
abbrev cX8_gain : ByteArray := prog_10_method_87_code
def yX8_gain : MethodName := ⟨RX8, "gain", "(I)I"⟩
abbrev cX8_layRow : ByteArray := prog_10_method_88_code
def yX8_layRow : MethodName := ⟨RX8, "layRow", "(I)V"⟩
abbrev cX8_isRead : ByteArray := prog_10_method_89_code
def yX8_isRead : MethodName := ⟨RX8, "isRead", "(II)Z"⟩
abbrev cX8_row : ByteArray := prog_10_method_90_code
def yX8_row : MethodName := ⟨RX8, "row", "(II)I"⟩
abbrev cX8_pace : ByteArray := prog_10_method_91_code
def yX8_pace : MethodName := ⟨RX8, "pace", "(I)I"⟩
abbrev cX8_until : ByteArray := prog_10_method_92_code
def yX8_until : MethodName := ⟨RX8, "until", "(I)I"⟩
abbrev cX8_streams : ByteArray := prog_10_method_93_code
def yX8_streams : MethodName := ⟨RX8, "streams", "(Z)I"⟩
abbrev cX8_badOnes : ByteArray := prog_10_method_94_code
def yX8_badOnes : MethodName := ⟨RX8, "badOnes", "()I"⟩
abbrev cX8_tells : ByteArray := prog_10_method_95_code
def yX8_tells : MethodName := ⟨RX8, "tells", "(I)I"⟩
abbrev cX8_count : ByteArray := prog_10_method_96_code
def yX8_count : MethodName := ⟨RX8, "count", "(I)I"⟩
def RJ9 : String := "java/lang/Math"
def TJ9 : u_T := fun k => match k with
  | _ => ("", "", "", false)
def tyJ9 : Nat → FieldType := fun k => match k with
  | _ => .int
abbrev wsJ90 : List Cond := u_ws RJ9 TJ9 0
theorem nmJ9 : ∀ a, a < 0 → ∀ b, b < 0 → a ≠ b → (TJ9 a).2.1 ≠ (TJ9 b).2.1 := by decide +kernel
theorem tyJ9_ok : ∀ k, k < 0 → parseFieldDescriptor (TJ9 k).2.2.1 = some (tyJ9 k) := by decide +kernel
abbrev cJ9_abs_0f7a4 : ByteArray := prog_11_method_59_code
def yJ9_abs_0f7a4 : MethodName := ⟨RJ9, "abs", "(I)I"⟩
abbrev cJ9_max_7cf53 : ByteArray := prog_11_method_65_code
def yJ9_max_7cf53 : MethodName := ⟨RJ9, "max", "(II)I"⟩
abbrev cJ9_min_7cf53 : ByteArray := prog_11_method_69_code
def yJ9_min_7cf53 : MethodName := ⟨RJ9, "min", "(II)I"⟩
def RJ10 : String := "java/lang/System"
def TJ10 : u_T := fun k => match k with
  | _ => ("", "", "", false)
def tyJ10 : Nat → FieldType := fun k => match k with
  | _ => .int
abbrev wsJ100 : List Cond := u_ws RJ10 TJ10 0
theorem nmJ10 : ∀ a, a < 0 → ∀ b, b < 0 → a ≠ b → (TJ10 a).2.1 ≠ (TJ10 b).2.1 := by decide +kernel
theorem tyJ10_ok : ∀ k, k < 0 → parseFieldDescriptor (TJ10 k).2.2.1 = some (tyJ10 k) := by decide +kernel
def RJ7 : String := "java/util/Arrays"
def TJ7 : u_T := fun k => match k with
  | _ => ("", "", "", false)
def tyJ7 : Nat → FieldType := fun k => match k with
  | _ => .int
abbrev wsJ70 : List Cond := u_ws RJ7 TJ7 0
theorem nmJ7 : ∀ a, a < 0 → ∀ b, b < 0 → a ≠ b → (TJ7 a).2.1 ≠ (TJ7 b).2.1 := by decide +kernel
theorem tyJ7_ok : ∀ k, k < 0 → parseFieldDescriptor (TJ7 k).2.2.1 = some (tyJ7 k) := by decide +kernel
abbrev cJ7_fill_53178 : ByteArray := prog_13_method_103_code
def yJ7_fill_53178 : MethodName := ⟨RJ7, "fill", "([II)V"⟩
def RL : String := "AheadPlannerLaw"
abbrev cL_law : ByteArray := code
def yL_law : MethodName := ⟨RL, "law", "([I)Z"⟩
abbrev vwCl : List vw_C := [(RX0, TX0, 10), (RX1, TX1, 1), (RX2, TX2, 10), (RX3, TX3, 5), (RX4, TX4, 11), (RX5, TX5, 6), (RX6, TX6, 3), (RX7, TX7, 7), (RX8, TX8, 24)]
