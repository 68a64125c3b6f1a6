-- ===== PART A: goes FIRST, ahead of the names: the tables' words, and 'selects' of the private methods out of them =====
/-- a private method of a class that the tables say can be made, by its rows of tables_1 -/
def lw_okq (q : MethodName × Nat) : Prop := (q.1.cls ≠ "java/lang/invoke/MethodHandle" ∧ q.1.cls ≠ "java/lang/invoke/VarHandle") ∧ Cond.instantiable q.1.cls q.2 ∈ tables_1 ∧ Cond.privateMethod q.1 ∈ tables_1 ∧ Cond.instanceMethod q.1 ∈ tables_1
theorem lw_p0 : lw_okq (⟨"NineMilesOff", "refusalOfRow", "(I)I"⟩, 9) := ⟨⟨by decide +kernel, by decide +kernel⟩, List.mem_of_getElem? (i := 24) (by decide +kernel), List.mem_of_getElem? (i := 212) (by decide +kernel), List.mem_of_getElem? (i := 213) (by decide +kernel)⟩
theorem lw_p1 : lw_okq (⟨"NineMilesOff", "refusalUnless", "(II)I"⟩, 9) := ⟨⟨by decide +kernel, by decide +kernel⟩, List.mem_of_getElem? (i := 24) (by decide +kernel), List.mem_of_getElem? (i := 216) (by decide +kernel), List.mem_of_getElem? (i := 217) (by decide +kernel)⟩
theorem lw_p2 : lw_okq (⟨"NineMilesOff", "shelfAt", "(I)LNineMilesOff$Shelf;"⟩, 9) := ⟨⟨by decide +kernel, by decide +kernel⟩, List.mem_of_getElem? (i := 24) (by decide +kernel), List.mem_of_getElem? (i := 223) (by decide +kernel), List.mem_of_getElem? (i := 224) (by decide +kernel)⟩
theorem lw_p3 : lw_okq (⟨"NineMilesOff", "refusalOfGround", "(I)I"⟩, 9) := ⟨⟨by decide +kernel, by decide +kernel⟩, List.mem_of_getElem? (i := 24) (by decide +kernel), List.mem_of_getElem? (i := 361) (by decide +kernel), List.mem_of_getElem? (i := 362) (by decide +kernel)⟩
theorem lw_p4 : lw_okq (⟨"NineMilesOff", "refusalToSee", "(II)I"⟩, 9) := ⟨⟨by decide +kernel, by decide +kernel⟩, List.mem_of_getElem? (i := 24) (by decide +kernel), List.mem_of_getElem? (i := 492) (by decide +kernel), List.mem_of_getElem? (i := 493) (by decide +kernel)⟩
theorem lw_p5 : lw_okq (⟨"NineMilesOff", "refusalToCount", "(I)I"⟩, 9) := ⟨⟨by decide +kernel, by decide +kernel⟩, List.mem_of_getElem? (i := 24) (by decide +kernel), List.mem_of_getElem? (i := 574) (by decide +kernel), List.mem_of_getElem? (i := 575) (by decide +kernel)⟩
theorem lw_p6 : lw_okq (⟨"NineMilesOff", "refusalOfTrack", "(I)I"⟩, 9) := ⟨⟨by decide +kernel, by decide +kernel⟩, List.mem_of_getElem? (i := 24) (by decide +kernel), List.mem_of_getElem? (i := 621) (by decide +kernel), List.mem_of_getElem? (i := 622) (by decide +kernel)⟩
theorem lw_p7 : lw_okq (⟨"java/lang/Throwable", "fillInStackTrace", "(I)Ljava/lang/Throwable;"⟩, 6) := ⟨⟨by decide +kernel, by decide +kernel⟩, List.mem_of_getElem? (i := 894) (by decide +kernel), List.mem_of_getElem? (i := 892) (by decide +kernel), List.mem_of_getElem? (i := 893) (by decide +kernel)⟩
theorem lw_p8 : lw_okq (⟨"NineMilesOffModel", "wrongRow", "(I)I"⟩, 39) := ⟨⟨by decide +kernel, by decide +kernel⟩, List.mem_of_getElem? (i := 972) (by decide +kernel), List.mem_of_getElem? (i := 1104) (by decide +kernel), List.mem_of_getElem? (i := 1105) (by decide +kernel)⟩
theorem lw_p9 : lw_okq (⟨"NineMilesOffModel", "readStatement", "()V"⟩, 39) := ⟨⟨by decide +kernel, by decide +kernel⟩, List.mem_of_getElem? (i := 972) (by decide +kernel), List.mem_of_getElem? (i := 1112) (by decide +kernel), List.mem_of_getElem? (i := 1113) (by decide +kernel)⟩
theorem lw_p10 : lw_okq (⟨"NineMilesOffModel", "here", "()I"⟩, 39) := ⟨⟨by decide +kernel, by decide +kernel⟩, List.mem_of_getElem? (i := 972) (by decide +kernel), List.mem_of_getElem? (i := 1116) (by decide +kernel), List.mem_of_getElem? (i := 1117) (by decide +kernel)⟩
theorem lw_p11 : lw_okq (⟨"NineMilesOffModel", "readDigits", "(I)I"⟩, 39) := ⟨⟨by decide +kernel, by decide +kernel⟩, List.mem_of_getElem? (i := 972) (by decide +kernel), List.mem_of_getElem? (i := 1123) (by decide +kernel), List.mem_of_getElem? (i := 1124) (by decide +kernel)⟩
theorem lw_p12 : lw_okq (⟨"NineMilesOffModel", "carryAll", "([IZ)V"⟩, 39) := ⟨⟨by decide +kernel, by decide +kernel⟩, List.mem_of_getElem? (i := 972) (by decide +kernel), List.mem_of_getElem? (i := 1129) (by decide +kernel), List.mem_of_getElem? (i := 1130) (by decide +kernel)⟩
theorem lw_p13 : lw_okq (⟨"NineMilesOffModel", "carry", "(I)I"⟩, 39) := ⟨⟨by decide +kernel, by decide +kernel⟩, List.mem_of_getElem? (i := 972) (by decide +kernel), List.mem_of_getElem? (i := 1133) (by decide +kernel), List.mem_of_getElem? (i := 1134) (by decide +kernel)⟩
theorem lw_p14 : lw_okq (⟨"NineMilesOffModel", "comes", "(I)Z"⟩, 39) := ⟨⟨by decide +kernel, by decide +kernel⟩, List.mem_of_getElem? (i := 972) (by decide +kernel), List.mem_of_getElem? (i := 1137) (by decide +kernel), List.mem_of_getElem? (i := 1138) (by decide +kernel)⟩
theorem lw_p15 : lw_okq (⟨"NineMilesOffModel", "canGo", "(II)Z"⟩, 39) := ⟨⟨by decide +kernel, by decide +kernel⟩, List.mem_of_getElem? (i := 972) (by decide +kernel), List.mem_of_getElem? (i := 1141) (by decide +kernel), List.mem_of_getElem? (i := 1142) (by decide +kernel)⟩
def lw_privs_1 : List (MethodName × Nat) := [(⟨"NineMilesOff", "refusalOfRow", "(I)I"⟩, 9), (⟨"NineMilesOff", "refusalUnless", "(II)I"⟩, 9), (⟨"NineMilesOff", "shelfAt", "(I)LNineMilesOff$Shelf;"⟩, 9), (⟨"NineMilesOff", "refusalOfGround", "(I)I"⟩, 9), (⟨"NineMilesOff", "refusalToSee", "(II)I"⟩, 9), (⟨"NineMilesOff", "refusalToCount", "(I)I"⟩, 9), (⟨"NineMilesOff", "refusalOfTrack", "(I)I"⟩, 9), (⟨"java/lang/Throwable", "fillInStackTrace", "(I)Ljava/lang/Throwable;"⟩, 6), (⟨"NineMilesOffModel", "wrongRow", "(I)I"⟩, 39), (⟨"NineMilesOffModel", "readStatement", "()V"⟩, 39), (⟨"NineMilesOffModel", "here", "()I"⟩, 39), (⟨"NineMilesOffModel", "readDigits", "(I)I"⟩, 39), (⟨"NineMilesOffModel", "carryAll", "([IZ)V"⟩, 39), (⟨"NineMilesOffModel", "carry", "(I)I"⟩, 39), (⟨"NineMilesOffModel", "comes", "(I)Z"⟩, 39), (⟨"NineMilesOffModel", "canGo", "(II)Z"⟩, 39)]
theorem lw_r1 : ∀ q ∈ lw_privs_1, lw_okq q := List.forall_mem_cons.mpr ⟨lw_p0, List.forall_mem_cons.mpr ⟨lw_p1, List.forall_mem_cons.mpr ⟨lw_p2, List.forall_mem_cons.mpr ⟨lw_p3, List.forall_mem_cons.mpr ⟨lw_p4, List.forall_mem_cons.mpr ⟨lw_p5, List.forall_mem_cons.mpr ⟨lw_p6, List.forall_mem_cons.mpr ⟨lw_p7, List.forall_mem_cons.mpr ⟨lw_p8, List.forall_mem_cons.mpr ⟨lw_p9, List.forall_mem_cons.mpr ⟨lw_p10, List.forall_mem_cons.mpr ⟨lw_p11, List.forall_mem_cons.mpr ⟨lw_p12, List.forall_mem_cons.mpr ⟨lw_p13, List.forall_mem_cons.mpr ⟨lw_p14, List.forall_mem_cons.mpr ⟨lw_p15, fun _ h => absurd h List.not_mem_nil⟩⟩⟩⟩⟩⟩⟩⟩⟩⟩⟩⟩⟩⟩⟩⟩
theorem lw_p16 : lw_okq (⟨"NineMilesOffModel", "goneTo", "(II)I"⟩, 39) := ⟨⟨by decide +kernel, by decide +kernel⟩, List.mem_of_getElem? (i := 972) (by decide +kernel), List.mem_of_getElem? (i := 1145) (by decide +kernel), List.mem_of_getElem? (i := 1146) (by decide +kernel)⟩
theorem lw_p17 : lw_okq (⟨"NineMilesOffModel", "isOpen", "(I)Z"⟩, 39) := ⟨⟨by decide +kernel, by decide +kernel⟩, List.mem_of_getElem? (i := 972) (by decide +kernel), List.mem_of_getElem? (i := 1152) (by decide +kernel), List.mem_of_getElem? (i := 1153) (by decide +kernel)⟩
theorem lw_p18 : lw_okq (⟨"NineMilesOffModel", "goBoth", "(II)V"⟩, 39) := ⟨⟨by decide +kernel, by decide +kernel⟩, List.mem_of_getElem? (i := 972) (by decide +kernel), List.mem_of_getElem? (i := 1156) (by decide +kernel), List.mem_of_getElem? (i := 1157) (by decide +kernel)⟩
theorem lw_p19 : lw_okq (⟨"NineMilesOffModel", "farOf", "(II)I"⟩, 39) := ⟨⟨by decide +kernel, by decide +kernel⟩, List.mem_of_getElem? (i := 972) (by decide +kernel), List.mem_of_getElem? (i := 1160) (by decide +kernel), List.mem_of_getElem? (i := 1161) (by decide +kernel)⟩
theorem lw_p20 : lw_okq (⟨"NineMilesOffModel", "heightOf", "(I)I"⟩, 39) := ⟨⟨by decide +kernel, by decide +kernel⟩, List.mem_of_getElem? (i := 972) (by decide +kernel), List.mem_of_getElem? (i := 1167) (by decide +kernel), List.mem_of_getElem? (i := 1168) (by decide +kernel)⟩
theorem lw_p21 : lw_okq (⟨"NineMilesOffModel", "chanceOf", "(I)I"⟩, 39) := ⟨⟨by decide +kernel, by decide +kernel⟩, List.mem_of_getElem? (i := 972) (by decide +kernel), List.mem_of_getElem? (i := 1187) (by decide +kernel), List.mem_of_getElem? (i := 1188) (by decide +kernel)⟩
theorem lw_p22 : lw_okq (⟨"NineMilesOffModel", "wrongKept", "(I)I"⟩, 39) := ⟨⟨by decide +kernel, by decide +kernel⟩, List.mem_of_getElem? (i := 972) (by decide +kernel), List.mem_of_getElem? (i := 1195) (by decide +kernel), List.mem_of_getElem? (i := 1196) (by decide +kernel)⟩
theorem lw_p23 : lw_okq (⟨"NineMilesOffModel", "layStepsFrom", "(I)V"⟩, 39) := ⟨⟨by decide +kernel, by decide +kernel⟩, List.mem_of_getElem? (i := 972) (by decide +kernel), List.mem_of_getElem? (i := 1222) (by decide +kernel), List.mem_of_getElem? (i := 1223) (by decide +kernel)⟩
theorem lw_p24 : lw_okq (⟨"NineMilesOffModel", "openCells", "()J"⟩, 39) := ⟨⟨by decide +kernel, by decide +kernel⟩, List.mem_of_getElem? (i := 972) (by decide +kernel), List.mem_of_getElem? (i := 1226) (by decide +kernel), List.mem_of_getElem? (i := 1227) (by decide +kernel)⟩
theorem lw_p25 : lw_okq (⟨"NineMilesOffModel", "goOn", "(J)J"⟩, 39) := ⟨⟨by decide +kernel, by decide +kernel⟩, List.mem_of_getElem? (i := 972) (by decide +kernel), List.mem_of_getElem? (i := 1233) (by decide +kernel), List.mem_of_getElem? (i := 1234) (by decide +kernel)⟩
theorem lw_p26 : lw_okq (⟨"NineMilesOffModel", "pairMany", "()I"⟩, 39) := ⟨⟨by decide +kernel, by decide +kernel⟩, List.mem_of_getElem? (i := 972) (by decide +kernel), List.mem_of_getElem? (i := 1241) (by decide +kernel), List.mem_of_getElem? (i := 1242) (by decide +kernel)⟩
theorem lw_p27 : lw_okq (⟨"NineMilesOffModel", "isPair", "(II)Z"⟩, 39) := ⟨⟨by decide +kernel, by decide +kernel⟩, List.mem_of_getElem? (i := 972) (by decide +kernel), List.mem_of_getElem? (i := 1245) (by decide +kernel), List.mem_of_getElem? (i := 1246) (by decide +kernel)⟩
theorem lw_p28 : lw_okq (⟨"NineMilesOffModel", "isOff", "(II)Z"⟩, 39) := ⟨⟨by decide +kernel, by decide +kernel⟩, List.mem_of_getElem? (i := 972) (by decide +kernel), List.mem_of_getElem? (i := 1249) (by decide +kernel), List.mem_of_getElem? (i := 1250) (by decide +kernel)⟩
theorem lw_p29 : lw_okq (⟨"NineMilesOffModel", "partWith", "(I)J"⟩, 39) := ⟨⟨by decide +kernel, by decide +kernel⟩, List.mem_of_getElem? (i := 972) (by decide +kernel), List.mem_of_getElem? (i := 1257) (by decide +kernel), List.mem_of_getElem? (i := 1258) (by decide +kernel)⟩
theorem lw_p30 : lw_okq (⟨"NineMilesOffModel", "wrongTwo", "(II)I"⟩, 39) := ⟨⟨by decide +kernel, by decide +kernel⟩, List.mem_of_getElem? (i := 972) (by decide +kernel), List.mem_of_getElem? (i := 1276) (by decide +kernel), List.mem_of_getElem? (i := 1277) (by decide +kernel)⟩
theorem lw_p31 : lw_okq (⟨"NineMilesOffModel", "areBoth", "()Z"⟩, 39) := ⟨⟨by decide +kernel, by decide +kernel⟩, List.mem_of_getElem? (i := 972) (by decide +kernel), List.mem_of_getElem? (i := 1280) (by decide +kernel), List.mem_of_getElem? (i := 1281) (by decide +kernel)⟩
def lw_privs_2 : List (MethodName × Nat) := [(⟨"NineMilesOffModel", "goneTo", "(II)I"⟩, 39), (⟨"NineMilesOffModel", "isOpen", "(I)Z"⟩, 39), (⟨"NineMilesOffModel", "goBoth", "(II)V"⟩, 39), (⟨"NineMilesOffModel", "farOf", "(II)I"⟩, 39), (⟨"NineMilesOffModel", "heightOf", "(I)I"⟩, 39), (⟨"NineMilesOffModel", "chanceOf", "(I)I"⟩, 39), (⟨"NineMilesOffModel", "wrongKept", "(I)I"⟩, 39), (⟨"NineMilesOffModel", "layStepsFrom", "(I)V"⟩, 39), (⟨"NineMilesOffModel", "openCells", "()J"⟩, 39), (⟨"NineMilesOffModel", "goOn", "(J)J"⟩, 39), (⟨"NineMilesOffModel", "pairMany", "()I"⟩, 39), (⟨"NineMilesOffModel", "isPair", "(II)Z"⟩, 39), (⟨"NineMilesOffModel", "isOff", "(II)Z"⟩, 39), (⟨"NineMilesOffModel", "partWith", "(I)J"⟩, 39), (⟨"NineMilesOffModel", "wrongTwo", "(II)I"⟩, 39), (⟨"NineMilesOffModel", "areBoth", "()Z"⟩, 39)]
theorem lw_r2 : ∀ q ∈ lw_privs_2, lw_okq q := List.forall_mem_cons.mpr ⟨lw_p16, List.forall_mem_cons.mpr ⟨lw_p17, List.forall_mem_cons.mpr ⟨lw_p18, List.forall_mem_cons.mpr ⟨lw_p19, List.forall_mem_cons.mpr ⟨lw_p20, List.forall_mem_cons.mpr ⟨lw_p21, List.forall_mem_cons.mpr ⟨lw_p22, List.forall_mem_cons.mpr ⟨lw_p23, List.forall_mem_cons.mpr ⟨lw_p24, List.forall_mem_cons.mpr ⟨lw_p25, List.forall_mem_cons.mpr ⟨lw_p26, List.forall_mem_cons.mpr ⟨lw_p27, List.forall_mem_cons.mpr ⟨lw_p28, List.forall_mem_cons.mpr ⟨lw_p29, List.forall_mem_cons.mpr ⟨lw_p30, List.forall_mem_cons.mpr ⟨lw_p31, fun _ h => absurd h List.not_mem_nil⟩⟩⟩⟩⟩⟩⟩⟩⟩⟩⟩⟩⟩⟩⟩⟩
theorem lw_p32 : lw_okq (⟨"NineMilesOffModel", "seeDays", "(II)I"⟩, 39) := ⟨⟨by decide +kernel, by decide +kernel⟩, List.mem_of_getElem? (i := 972) (by decide +kernel), List.mem_of_getElem? (i := 1284) (by decide +kernel), List.mem_of_getElem? (i := 1285) (by decide +kernel)⟩
theorem lw_p33 : lw_okq (⟨"NineMilesOffModel", "layDaysFrom", "(II)V"⟩, 39) := ⟨⟨by decide +kernel, by decide +kernel⟩, List.mem_of_getElem? (i := 972) (by decide +kernel), List.mem_of_getElem? (i := 1288) (by decide +kernel), List.mem_of_getElem? (i := 1289) (by decide +kernel)⟩
theorem lw_p34 : lw_okq (⟨"NineMilesOffModel", "wrongWays", "(I)I"⟩, 39) := ⟨⟨by decide +kernel, by decide +kernel⟩, List.mem_of_getElem? (i := 972) (by decide +kernel), List.mem_of_getElem? (i := 1313) (by decide +kernel), List.mem_of_getElem? (i := 1314) (by decide +kernel)⟩
theorem lw_p35 : lw_okq (⟨"NineMilesOffModel", "layWays", "(I)V"⟩, 39) := ⟨⟨by decide +kernel, by decide +kernel⟩, List.mem_of_getElem? (i := 972) (by decide +kernel), List.mem_of_getElem? (i := 1319) (by decide +kernel), List.mem_of_getElem? (i := 1320) (by decide +kernel)⟩
theorem lw_p36 : lw_okq (⟨"NineMilesOffModel", "wrongCells", "(I)I"⟩, 39) := ⟨⟨by decide +kernel, by decide +kernel⟩, List.mem_of_getElem? (i := 972) (by decide +kernel), List.mem_of_getElem? (i := 1336) (by decide +kernel), List.mem_of_getElem? (i := 1337) (by decide +kernel)⟩
theorem lw_p37 : lw_okq (⟨"NineMilesOffModel", "notOff", "(IIJ)J"⟩, 39) := ⟨⟨by decide +kernel, by decide +kernel⟩, List.mem_of_getElem? (i := 972) (by decide +kernel), List.mem_of_getElem? (i := 1340) (by decide +kernel), List.mem_of_getElem? (i := 1341) (by decide +kernel)⟩
theorem lw_p38 : lw_okq (⟨"NineMilesOffModel", "toTheLast", "(IIJ)J"⟩, 39) := ⟨⟨by decide +kernel, by decide +kernel⟩, List.mem_of_getElem? (i := 972) (by decide +kernel), List.mem_of_getElem? (i := 1344) (by decide +kernel), List.mem_of_getElem? (i := 1345) (by decide +kernel)⟩
theorem lw_p39 : lw_okq (⟨"NineMilesOffModel", "rests", "(II)Z"⟩, 39) := ⟨⟨by decide +kernel, by decide +kernel⟩, List.mem_of_getElem? (i := 972) (by decide +kernel), List.mem_of_getElem? (i := 1360) (by decide +kernel), List.mem_of_getElem? (i := 1361) (by decide +kernel)⟩
theorem lw_p40 : lw_okq (⟨"NineMilesOffModel", "farBy", "(II)I"⟩, 39) := ⟨⟨by decide +kernel, by decide +kernel⟩, List.mem_of_getElem? (i := 972) (by decide +kernel), List.mem_of_getElem? (i := 1364) (by decide +kernel), List.mem_of_getElem? (i := 1365) (by decide +kernel)⟩
theorem lw_p41 : lw_okq (⟨"NineMilesOffModel", "stayOrGo", "(J)J"⟩, 39) := ⟨⟨by decide +kernel, by decide +kernel⟩, List.mem_of_getElem? (i := 972) (by decide +kernel), List.mem_of_getElem? (i := 1396) (by decide +kernel), List.mem_of_getElem? (i := 1397) (by decide +kernel)⟩
theorem lw_p42 : lw_okq (⟨"NineMilesOffModel", "skipped", "(I)J"⟩, 39) := ⟨⟨by decide +kernel, by decide +kernel⟩, List.mem_of_getElem? (i := 972) (by decide +kernel), List.mem_of_getElem? (i := 1400) (by decide +kernel), List.mem_of_getElem? (i := 1401) (by decide +kernel)⟩
theorem lw_p43 : lw_okq (⟨"NineMilesOffModel", "drawBelow", "(I)I"⟩, 39) := ⟨⟨by decide +kernel, by decide +kernel⟩, List.mem_of_getElem? (i := 972) (by decide +kernel), List.mem_of_getElem? (i := 1411) (by decide +kernel), List.mem_of_getElem? (i := 1412) (by decide +kernel)⟩
def lw_privs_3 : List (MethodName × Nat) := [(⟨"NineMilesOffModel", "seeDays", "(II)I"⟩, 39), (⟨"NineMilesOffModel", "layDaysFrom", "(II)V"⟩, 39), (⟨"NineMilesOffModel", "wrongWays", "(I)I"⟩, 39), (⟨"NineMilesOffModel", "layWays", "(I)V"⟩, 39), (⟨"NineMilesOffModel", "wrongCells", "(I)I"⟩, 39), (⟨"NineMilesOffModel", "notOff", "(IIJ)J"⟩, 39), (⟨"NineMilesOffModel", "toTheLast", "(IIJ)J"⟩, 39), (⟨"NineMilesOffModel", "rests", "(II)Z"⟩, 39), (⟨"NineMilesOffModel", "farBy", "(II)I"⟩, 39), (⟨"NineMilesOffModel", "stayOrGo", "(J)J"⟩, 39), (⟨"NineMilesOffModel", "skipped", "(I)J"⟩, 39), (⟨"NineMilesOffModel", "drawBelow", "(I)I"⟩, 39)]
theorem lw_r3 : ∀ q ∈ lw_privs_3, lw_okq q := List.forall_mem_cons.mpr ⟨lw_p32, List.forall_mem_cons.mpr ⟨lw_p33, List.forall_mem_cons.mpr ⟨lw_p34, List.forall_mem_cons.mpr ⟨lw_p35, List.forall_mem_cons.mpr ⟨lw_p36, List.forall_mem_cons.mpr ⟨lw_p37, List.forall_mem_cons.mpr ⟨lw_p38, List.forall_mem_cons.mpr ⟨lw_p39, List.forall_mem_cons.mpr ⟨lw_p40, List.forall_mem_cons.mpr ⟨lw_p41, List.forall_mem_cons.mpr ⟨lw_p42, List.forall_mem_cons.mpr ⟨lw_p43, fun _ h => absurd h List.not_mem_nil⟩⟩⟩⟩⟩⟩⟩⟩⟩⟩⟩⟩
def lw_privs : List (MethodName × Nat) := lw_privs_1 ++ (lw_privs_2 ++ (lw_privs_3))
def lw_tbl : List Cond := k2_sels lw_privs ++ tables_1
theorem lw_privs_ok : ∀ q ∈ lw_privs, lw_okq q := by
  show ∀ q ∈ lw_privs_1 ++ (lw_privs_2 ++ (lw_privs_3)), lw_okq q
  exact List.forall_mem_append.mpr ⟨lw_r1, List.forall_mem_append.mpr ⟨lw_r2, lw_r3⟩⟩

def RX0 : String := "NineMilesOff$Board"
def TX0 : u_T := fun k => match k with
  | 0 => ("NineMilesOff$Board", "heights", "[I", true)
  | 1 => ("NineMilesOff$Board", "fars", "[I", true)
  | 2 => ("NineMilesOff$Board", "near", "[J", true)
  | 3 => ("NineMilesOff$Board", "fit", "[J", true)
  | 4 => ("NineMilesOff$Board", "come", "[J", true)
  | 5 => ("NineMilesOff$Board", "fresh", "[J", true)
  | 6 => ("NineMilesOff$Board", "days", "[I", true)
  | 7 => ("NineMilesOff$Board", "walks", "[J", true)
  | _ => ("NineMilesOff$Board", "half", "[J", true)
def tyX0 : Nat → FieldType := fun k => match k with
  | 0 => .array .int
  | 1 => .array .int
  | 2 => .array .long
  | 3 => .array .long
  | 4 => .array .long
  | 5 => .array .long
  | 6 => .array .int
  | 7 => .array .long
  | _ => .array .long
abbrev wsX00 : List Cond := u_ws RX0 TX0 9
theorem nmX0 : ∀ a, a < 9 → ∀ b, b < 9 → a ≠ b → (TX0 a).2.1 ≠ (TX0 b).2.1 := by decide +kernel
theorem tyX0_ok : ∀ k, k < 9 → parseFieldDescriptor (TX0 k).2.2.1 = some (tyX0 k) := by decide +kernel
abbrev cX0_init : ByteArray := prog_2_method_1_code
def yX0_init : MethodName := ⟨RX0, "<init>", "()V"⟩
abbrev cX0_lay : ByteArray := prog_2_method_2_code
def yX0_lay : MethodName := ⟨RX0, "lay", "(LNineMilesOff$Land;)V"⟩
abbrev cX0_bound : ByteArray := prog_2_method_3_code
def yX0_bound : MethodName := ⟨RX0, "bound", "(II)V"⟩
abbrev cX0_admit : ByteArray := prog_2_method_4_code
/-- the name of this method of the board, as the printed tables have it (by its place there) -/
def nmX0_4 : String := match (tables_1_2[190]? : Option Cond) with
  | some (Cond.instanceMethod y) => y.name
  | _ => ""
def yX0_admit : MethodName := ⟨RX0, nmX0_4, "(J)V"⟩
abbrev cX0_nearOf : ByteArray := prog_2_method_5_code
def yX0_nearOf : MethodName := ⟨RX0, "nearOf", "(I)J"⟩
abbrev cX0_isPair : ByteArray := prog_2_method_6_code
def yX0_isPair : MethodName := ⟨RX0, "isPair", "(II)Z"⟩
abbrev cX0_pairsInAll : ByteArray := prog_2_method_7_code
def yX0_pairsInAll : MethodName := ⟨RX0, "pairsInAll", "()I"⟩
abbrev cX0_bitsOf : ByteArray := prog_2_method_8_code
def yX0_bitsOf : MethodName := ⟨RX0, "bitsOf", "([J)I"⟩
abbrev cX0_pairAt : ByteArray := prog_2_method_9_code
def yX0_pairAt : MethodName := ⟨RX0, "pairAt", "(I)I"⟩
abbrev cX0_farsInAll : ByteArray := prog_2_method_10_code
def yX0_farsInAll : MethodName := ⟨RX0, "farsInAll", "()J"⟩
abbrev cX0_start : ByteArray := prog_2_method_11_code
def yX0_start : MethodName := ⟨RX0, "start", "(II)V"⟩
abbrev cX0_spreadOn : ByteArray := prog_2_method_12_code
def yX0_spreadOn : MethodName := ⟨RX0, "spreadOn", "(I)Z"⟩
abbrev cX0_comeAround : ByteArray := prog_2_method_13_code
def yX0_comeAround : MethodName := ⟨RX0, "comeAround", "(I)J"⟩
abbrev cX0_mark : ByteArray := prog_2_method_14_code
def yX0_mark : MethodName := ⟨RX0, "mark", "(IJI)V"⟩
abbrev cX0_daysBetween : ByteArray := prog_2_method_15_code
def yX0_daysBetween : MethodName := ⟨RX0, "daysBetween", "(IIII)I"⟩
abbrev cX0_daysLeft : ByteArray := prog_2_method_16_code
def yX0_daysLeft : MethodName := ⟨RX0, "daysLeft", "(II)I"⟩
abbrev cX0_pairOnWay : ByteArray := prog_2_method_17_code
def yX0_pairOnWay : MethodName := ⟨RX0, "pairOnWay", "(III)I"⟩
abbrev cX0_nextPair : ByteArray := prog_2_method_18_code
def yX0_nextPair : MethodName := ⟨RX0, "nextPair", "(II)I"⟩
abbrev cX0_pairsWithin : ByteArray := prog_2_method_19_code
def yX0_pairsWithin : MethodName := ⟨RX0, "pairsWithin", "(III)I"⟩
abbrev cX0_walk : ByteArray := prog_2_method_20_code
def yX0_walk : MethodName := ⟨RX0, "walk", "(III)V"⟩
abbrev cX0_walkHim : ByteArray := prog_2_method_21_code
def yX0_walkHim : MethodName := ⟨RX0, "walkHim", "()V"⟩
abbrev cX0_walkHer : ByteArray := prog_2_method_22_code
def yX0_walkHer : MethodName := ⟨RX0, "walkHer", "()V"⟩
abbrev cX0_walksTo : ByteArray := prog_2_method_23_code
def yX0_walksTo : MethodName := ⟨RX0, "walksTo", "(II)J"⟩
abbrev cX0_walksInAll : ByteArray := prog_2_method_24_code
def yX0_walksInAll : MethodName := ⟨RX0, "walksInAll", "()J"⟩
def RX1 : String := "NineMilesOff$Fraction"
def TX1 : u_T := fun k => match k with
  | _ => ("", "", "", false)
def tyX1 : Nat → FieldType := fun k => match k with
  | _ => .int
abbrev wsX10 : List Cond := u_ws RX1 TX1 0
theorem nmX1 : ∀ a, a < 0 → ∀ b, b < 0 → a ≠ b → (TX1 a).2.1 ≠ (TX1 b).2.1 := by decide +kernel
theorem tyX1_ok : ∀ k, k < 0 → parseFieldDescriptor (TX1 k).2.2.1 = some (tyX1 k) := by decide +kernel
abbrev cX1_partOf : ByteArray := prog_3_method_2_code
def yX1_partOf : MethodName := ⟨RX1, "partOf", "(JJI)J"⟩
abbrev cX1_commonDivisor : ByteArray := prog_3_method_3_code
def yX1_commonDivisor : MethodName := ⟨RX1, "commonDivisor", "(JJ)J"⟩
def RX2 : String := "NineMilesOff$Kinds"
def TX2 : u_T := fun k => match k with
  | _ => ("", "", "", false)
def tyX2 : Nat → FieldType := fun k => match k with
  | _ => .int
abbrev wsX20 : List Cond := u_ws RX2 TX2 0
theorem nmX2 : ∀ a, a < 0 → ∀ b, b < 0 → a ≠ b → (TX2 a).2.1 ≠ (TX2 b).2.1 := by decide +kernel
theorem tyX2_ok : ∀ k, k < 0 → parseFieldDescriptor (TX2 k).2.2.1 = some (tyX2 k) := by decide +kernel
abbrev cX2_isKind : ByteArray := prog_4_method_2_code
def yX2_isKind : MethodName := ⟨RX2, "isKind", "(I)Z"⟩
abbrev cX2_heightOf : ByteArray := prog_4_method_3_code
def yX2_heightOf : MethodName := ⟨RX2, "heightOf", "(II)I"⟩
abbrev cX2_isOpen : ByteArray := prog_4_method_4_code
def yX2_isOpen : MethodName := ⟨RX2, "isOpen", "(III)Z"⟩
abbrev cX2_chanceOf : ByteArray := prog_4_method_5_code
def yX2_chanceOf : MethodName := ⟨RX2, "chanceOf", "(II)I"⟩
abbrev cX2_costOf : ByteArray := prog_4_method_6_code
def yX2_costOf : MethodName := ⟨RX2, "costOf", "(II)I"⟩
abbrev cX2_fail : ByteArray := prog_4_method_7_code
def yX2_fail : MethodName := ⟨RX2, "fail", "(II)V"⟩
def RX3 : String := "NineMilesOff$Land"
def TX3 : u_T := fun k => match k with
  | 0 => ("NineMilesOff$Land", "kinds", "[I", true)
  | 1 => ("NineMilesOff$Land", "figures", "[I", true)
  | 2 => ("NineMilesOff$Land", "winter", "I", false)
  | 3 => ("NineMilesOff$Land", "nearest", "I", false)
  | 4 => ("NineMilesOff$Land", "farthest", "I", false)
  | 5 => ("NineMilesOff$Land", "his", "I", false)
  | 6 => ("NineMilesOff$Land", "hers", "I", false)
  | 7 => ("NineMilesOff$Land", "day", "I", false)
  | 8 => ("NineMilesOff$Land", "stopped", "I", false)
  | _ => ("NineMilesOff$Land", "pain", "I", false)
def tyX3 : Nat → FieldType := fun k => match k with
  | 0 => .array .int
  | 1 => .array .int
  | 2 => .int
  | 3 => .int
  | 4 => .int
  | 5 => .int
  | 6 => .int
  | 7 => .int
  | 8 => .int
  | _ => .int
abbrev wsX30 : List Cond := u_ws RX3 TX3 10
theorem nmX3 : ∀ a, a < 10 → ∀ b, b < 10 → a ≠ b → (TX3 a).2.1 ≠ (TX3 b).2.1 := by decide +kernel
theorem tyX3_ok : ∀ k, k < 10 → parseFieldDescriptor (TX3 k).2.2.1 = some (tyX3 k) := by decide +kernel
abbrev cX3_init : ByteArray := prog_5_method_1_code
def yX3_init : MethodName := ⟨RX3, "<init>", "()V"⟩
abbrev cX3_becomes : ByteArray := prog_5_method_2_code
def yX3_becomes : MethodName := ⟨RX3, "becomes", "(LNineMilesOff$Land;)V"⟩
abbrev cX3_kindAt : ByteArray := prog_5_method_3_code
def yX3_kindAt : MethodName := ⟨RX3, "kindAt", "(I)I"⟩
abbrev cX3_figureAt : ByteArray := prog_5_method_4_code
def yX3_figureAt : MethodName := ⟨RX3, "figureAt", "(I)I"⟩
abbrev cX3_heightAt : ByteArray := prog_5_method_5_code
def yX3_heightAt : MethodName := ⟨RX3, "heightAt", "(I)I"⟩
abbrev cX3_isOpen : ByteArray := prog_5_method_6_code
def yX3_isOpen : MethodName := ⟨RX3, "isOpen", "(I)Z"⟩
abbrev cX3_chanceAt : ByteArray := prog_5_method_7_code
def yX3_chanceAt : MethodName := ⟨RX3, "chanceAt", "(I)I"⟩
abbrev cX3_openCells : ByteArray := prog_5_method_8_code
def yX3_openCells : MethodName := ⟨RX3, "openCells", "()J"⟩
abbrev cX3_sureCells : ByteArray := prog_5_method_9_code
def yX3_sureCells : MethodName := ⟨RX3, "sureCells", "()J"⟩
abbrev cX3_unsureCells : ByteArray := prog_5_method_10_code
def yX3_unsureCells : MethodName := ⟨RX3, "unsureCells", "()J"⟩
abbrev cX3_bothStand : ByteArray := prog_5_method_11_code
def yX3_bothStand : MethodName := ⟨RX3, "bothStand", "()Z"⟩
abbrev cX3_farBetween : ByteArray := prog_5_method_12_code
def yX3_farBetween : MethodName := ⟨RX3, "farBetween", "(II)I"⟩
abbrev cX3_layAt : ByteArray := prog_5_method_13_code
def yX3_layAt : MethodName := ⟨RX3, "layAt", "(III)V"⟩
abbrev cX3_place : ByteArray := prog_5_method_14_code
def yX3_place : MethodName := ⟨RX3, "place", "(II)V"⟩
abbrev cX3_cellBy : ByteArray := prog_5_method_15_code
def yX3_cellBy : MethodName := ⟨RX3, "cellBy", "(II)I"⟩
abbrev cX3_cellByOrStay : ByteArray := prog_5_method_16_code
def yX3_cellByOrStay : MethodName := ⟨RX3, "cellByOrStay", "(II)I"⟩
abbrev cX3_goDay : ByteArray := prog_5_method_17_code
def yX3_goDay : MethodName := ⟨RX3, "goDay", "(II)Z"⟩
abbrev cX3_endDay : ByteArray := prog_5_method_18_code
def yX3_endDay : MethodName := ⟨RX3, "endDay", "(II)V"⟩
def RX4 : String := "NineMilesOff$Play"
def TX4 : u_T := fun k => match k with
  | _ => ("NineMilesOff$Play", "fars", "[I", true)
def tyX4 : Nat → FieldType := fun k => match k with
  | _ => .array .int
abbrev wsX40 : List Cond := u_ws RX4 TX4 1
theorem nmX4 : ∀ a, a < 1 → ∀ b, b < 1 → a ≠ b → (TX4 a).2.1 ≠ (TX4 b).2.1 := by decide +kernel
theorem tyX4_ok : ∀ k, k < 1 → parseFieldDescriptor (TX4 k).2.2.1 = some (tyX4 k) := by decide +kernel
abbrev cX4_init : ByteArray := prog_6_method_1_code
def yX4_init : MethodName := ⟨RX4, "<init>", "()V"⟩
abbrev cX4_lay : ByteArray := prog_6_method_2_code
def yX4_lay : MethodName := ⟨RX4, "lay", "(LNineMilesOff$Land;)V"⟩
abbrev cX4_farOf : ByteArray := prog_6_method_3_code
def yX4_farOf : MethodName := ⟨RX4, "farOf", "(II)I"⟩
abbrev cX4_firstHeld : ByteArray := prog_6_method_4_code
def yX4_firstHeld : MethodName := ⟨RX4, "firstHeld", "()I"⟩
abbrev cX4_isHeld : ByteArray := prog_6_method_5_code
def yX4_isHeld : MethodName := ⟨RX4, "isHeld", "(II)Z"⟩
abbrev cX4_leastSure : ByteArray := prog_6_method_6_code
def yX4_leastSure : MethodName := ⟨RX4, "leastSure", "()I"⟩
abbrev cX4_worstOf : ByteArray := prog_6_method_7_code
def yX4_worstOf : MethodName := ⟨RX4, "worstOf", "(I)I"⟩
def RX5 : String := "NineMilesOff$Shelf"
def TX5 : u_T := fun k => match k with
  | 0 => ("NineMilesOff$Shelf", "holds", "I", false)
  | 1 => ("NineMilesOff$Shelf", "kind", "I", false)
  | 2 => ("NineMilesOff$Shelf", "figure", "I", false)
  | 3 => ("NineMilesOff$Shelf", "sort", "I", false)
  | 4 => ("NineMilesOff$Shelf", "size", "I", false)
  | _ => ("NineMilesOff$Shelf", "numbers", "[J", true)
def tyX5 : Nat → FieldType := fun k => match k with
  | 0 => .int
  | 1 => .int
  | 2 => .int
  | 3 => .int
  | 4 => .int
  | _ => .array .long
abbrev wsX50 : List Cond := u_ws RX5 TX5 6
theorem nmX5 : ∀ a, a < 6 → ∀ b, b < 6 → a ≠ b → (TX5 a).2.1 ≠ (TX5 b).2.1 := by decide +kernel
theorem tyX5_ok : ∀ k, k < 6 → parseFieldDescriptor (TX5 k).2.2.1 = some (tyX5 k) := by decide +kernel
abbrev cX5_init : ByteArray := prog_7_method_1_code
def yX5_init : MethodName := ⟨RX5, "<init>", "()V"⟩
abbrev cX5_takeGround : ByteArray := prog_7_method_2_code
def yX5_takeGround : MethodName := ⟨RX5, "takeGround", "(II)V"⟩
abbrev cX5_takeRow : ByteArray := prog_7_method_3_code
def yX5_takeRow : MethodName := ⟨RX5, "takeRow", "(II)V"⟩
abbrev cX5_hasPlace : ByteArray := prog_7_method_4_code
def yX5_hasPlace : MethodName := ⟨RX5, "hasPlace", "(I)Z"⟩
abbrev cX5_hasPlaces : ByteArray := prog_7_method_5_code
def yX5_hasPlaces : MethodName := ⟨RX5, "hasPlaces", "(II)Z"⟩
abbrev cX5_numberAt : ByteArray := prog_7_method_6_code
def yX5_numberAt : MethodName := ⟨RX5, "numberAt", "(I)J"⟩
abbrev cX5_write : ByteArray := prog_7_method_7_code
def yX5_write : MethodName := ⟨RX5, "write", "(II)V"⟩
abbrev cX5_leastNumber : ByteArray := prog_7_method_8_code
def yX5_leastNumber : MethodName := ⟨RX5, "leastNumber", "()J"⟩
def RX6 : String := "NineMilesOff$Snow"
def TX6 : u_T := fun k => match k with
  | _ => ("", "", "", false)
def tyX6 : Nat → FieldType := fun k => match k with
  | _ => .int
abbrev wsX60 : List Cond := u_ws RX6 TX6 0
theorem nmX6 : ∀ a, a < 0 → ∀ b, b < 0 → a ≠ b → (TX6 a).2.1 ≠ (TX6 b).2.1 := by decide +kernel
theorem tyX6_ok : ∀ k, k < 0 → parseFieldDescriptor (TX6 k).2.2.1 = some (tyX6 k) := by decide +kernel
abbrev cX6_likely : ByteArray := prog_8_method_2_code
def yX6_likely : MethodName := ⟨RX6, "likely", "(LNineMilesOff$Land;II)J"⟩
abbrev cX6_passableOf : ByteArray := prog_8_method_3_code
def yX6_passableOf : MethodName := ⟨RX6, "passableOf", "(JI)J"⟩
abbrev cX6_weightOf : ByteArray := prog_8_method_4_code
def yX6_weightOf : MethodName := ⟨RX6, "weightOf", "(LNineMilesOff$Land;JJ)J"⟩
def RX7 : String := "NineMilesOff$Square"
def TX7 : u_T := fun k => match k with
  | _ => ("", "", "", false)
def tyX7 : Nat → FieldType := fun k => match k with
  | _ => .int
abbrev wsX70 : List Cond := u_ws RX7 TX7 0
theorem nmX7 : ∀ a, a < 0 → ∀ b, b < 0 → a ≠ b → (TX7 a).2.1 ≠ (TX7 b).2.1 := by decide +kernel
theorem tyX7_ok : ∀ k, k < 0 → parseFieldDescriptor (TX7 k).2.2.1 = some (tyX7 k) := by decide +kernel
abbrev cX7_bit : ByteArray := prog_9_method_2_code
def yX7_bit : MethodName := ⟨RX7, "bit", "(I)J"⟩
abbrev cX7_has : ByteArray := prog_9_method_3_code
def yX7_has : MethodName := ⟨RX7, "has", "(JI)Z"⟩
abbrev cX7_leastOf : ByteArray := prog_9_method_4_code
def yX7_leastOf : MethodName := ⟨RX7, "leastOf", "(J)I"⟩
abbrev cX7_apart : ByteArray := prog_9_method_5_code
def yX7_apart : MethodName := ⟨RX7, "apart", "(II)I"⟩
abbrev cX7_cellTo : ByteArray := prog_9_method_6_code
def yX7_cellTo : MethodName := ⟨RX7, "cellTo", "(II)I"⟩
abbrev cX7_spread : ByteArray := prog_9_method_7_code
def yX7_spread : MethodName := ⟨RX7, "spread", "(J)J"⟩
abbrev cX7_cellsWithin : ByteArray := prog_9_method_8_code
def yX7_cellsWithin : MethodName := ⟨RX7, "cellsWithin", "(IIJ)J"⟩
abbrev cX7_islandOf : ByteArray := prog_9_method_9_code
def yX7_islandOf : MethodName := ⟨RX7, "islandOf", "(IJ)J"⟩
abbrev cX7_islandsOf : ByteArray := prog_9_method_10_code
def yX7_islandsOf : MethodName := ⟨RX7, "islandsOf", "(J)I"⟩
abbrev cX7_largestIsland : ByteArray := prog_9_method_11_code
def yX7_largestIsland : MethodName := ⟨RX7, "largestIsland", "(J)J"⟩
abbrev cX7_stepsBetween : ByteArray := prog_9_method_12_code
def yX7_stepsBetween : MethodName := ⟨RX7, "stepsBetween", "(IIJ)I"⟩
abbrev cX7_greatestSteps : ByteArray := prog_9_method_13_code
def yX7_greatestSteps : MethodName := ⟨RX7, "greatestSteps", "(IJ)I"⟩
abbrev cX7_middleOf : ByteArray := prog_9_method_14_code
def yX7_middleOf : MethodName := ⟨RX7, "middleOf", "(J)I"⟩
def RX8 : String := "NineMilesOff$Text"
def TX8 : u_T := fun k => match k with
  | _ => ("", "", "", false)
def tyX8 : Nat → FieldType := fun k => match k with
  | _ => .int
abbrev wsX80 : List Cond := u_ws RX8 TX8 0
theorem nmX8 : ∀ a, a < 0 → ∀ b, b < 0 → a ≠ b → (TX8 a).2.1 ≠ (TX8 b).2.1 := by decide +kernel
theorem tyX8_ok : ∀ k, k < 0 → parseFieldDescriptor (TX8 k).2.2.1 = some (tyX8 k) := by decide +kernel
abbrev cX8_digitsBehind : ByteArray := prog_10_method_2_code
def yX8_digitsBehind : MethodName := ⟨RX8, "digitsBehind", "(J)I"⟩
abbrev cX8_firstWrongByte : ByteArray := prog_10_method_3_code
def yX8_firstWrongByte : MethodName := ⟨RX8, "firstWrongByte", "(LNineMilesOff$Shelf;)I"⟩
abbrev cX8_statementsOf : ByteArray := prog_10_method_4_code
def yX8_statementsOf : MethodName := ⟨RX8, "statementsOf", "(LNineMilesOff$Shelf;)I"⟩
abbrev cX8_firstNotDone : ByteArray := prog_10_method_5_code
def yX8_firstNotDone : MethodName := ⟨RX8, "firstNotDone", "(LNineMilesOff$Shelf;LNineMilesOff$Land;)I"⟩
abbrev cX8_digitAt : ByteArray := prog_10_method_6_code
def yX8_digitAt : MethodName := ⟨RX8, "digitAt", "(LNineMilesOff$Shelf;I)I"⟩
abbrev cX8_twoDigitsAt : ByteArray := prog_10_method_7_code
def yX8_twoDigitsAt : MethodName := ⟨RX8, "twoDigitsAt", "(LNineMilesOff$Shelf;I)I"⟩
abbrev cX8_isDone : ByteArray := prog_10_method_8_code
def yX8_isDone : MethodName := ⟨RX8, "isDone", "(LNineMilesOff$Shelf;ILNineMilesOff$Land;)Z"⟩
abbrev cX8_isLaid : ByteArray := prog_10_method_9_code
def yX8_isLaid : MethodName := ⟨RX8, "isLaid", "(LNineMilesOff$Shelf;ILNineMilesOff$Land;)Z"⟩
abbrev cX8_isPlaced : ByteArray := prog_10_method_10_code
def yX8_isPlaced : MethodName := ⟨RX8, "isPlaced", "(IILNineMilesOff$Land;)Z"⟩
abbrev cX8_isBound : ByteArray := prog_10_method_11_code
def yX8_isBound : MethodName := ⟨RX8, "isBound", "(LNineMilesOff$Shelf;ILNineMilesOff$Land;)Z"⟩
abbrev cX8_isWintered : ByteArray := prog_10_method_12_code
def yX8_isWintered : MethodName := ⟨RX8, "isWintered", "(ILNineMilesOff$Land;)Z"⟩
def RX9 : String := "NineMilesOff$Track"
def TX9 : u_T := fun k => match k with
  | 0 => ("NineMilesOff$Track", "hers", "[J", true)
  | 1 => ("NineMilesOff$Track", "left", "[J", true)
  | _ => ("NineMilesOff$Track", "leftThen", "[J", true)
def tyX9 : Nat → FieldType := fun k => match k with
  | 0 => .array .long
  | 1 => .array .long
  | _ => .array .long
abbrev wsX90 : List Cond := u_ws RX9 TX9 3
theorem nmX9 : ∀ a, a < 3 → ∀ b, b < 3 → a ≠ b → (TX9 a).2.1 ≠ (TX9 b).2.1 := by decide +kernel
theorem tyX9_ok : ∀ k, k < 3 → parseFieldDescriptor (TX9 k).2.2.1 = some (tyX9 k) := by decide +kernel
abbrev cX9_init : ByteArray := prog_11_method_1_code
def yX9_init : MethodName := ⟨RX9, "<init>", "()V"⟩
abbrev cX9_isOfCells : ByteArray := prog_11_method_2_code
def yX9_isOfCells : MethodName := ⟨RX9, "isOfCells", "(LNineMilesOff$Shelf;)Z"⟩
abbrev cX9_firstWrongPlace : ByteArray := prog_11_method_3_code
def yX9_firstWrongPlace : MethodName := ⟨RX9, "firstWrongPlace", "(LNineMilesOff$Shelf;LNineMilesOff$Land;)I"⟩
abbrev cX9_fitOn : ByteArray := prog_11_method_4_code
def yX9_fitOn : MethodName := ⟨RX9, "fitOn", "(LNineMilesOff$Shelf;ILNineMilesOff$Board;J)J"⟩
abbrev cX9_follow : ByteArray := prog_11_method_5_code
def yX9_follow : MethodName := ⟨RX9, "follow", "(LNineMilesOff$Shelf;LNineMilesOff$Board;J)J"⟩
abbrev cX9_bestDay : ByteArray := prog_11_method_6_code
def yX9_bestDay : MethodName := ⟨RX9, "bestDay", "(LNineMilesOff$Shelf;LNineMilesOff$Board;J)I"⟩
abbrev cX9_leftAround : ByteArray := prog_11_method_7_code
def yX9_leftAround : MethodName := ⟨RX9, "leftAround", "(I)J"⟩
abbrev cX9_worstOf : ByteArray := prog_11_method_8_code
def yX9_worstOf : MethodName := ⟨RX9, "worstOf", "(J)I"⟩
def RX10 : String := "NineMilesOff"
def TX10 : u_T := fun k => match k with
  | 0 => ("NineMilesOff", "now", "LNineMilesOff$Land;", true)
  | 1 => ("NineMilesOff", "kept", "LNineMilesOff$Land;", true)
  | 2 => ("NineMilesOff", "trial", "LNineMilesOff$Land;", true)
  | 3 => ("NineMilesOff", "taken", "Z", false)
  | 4 => ("NineMilesOff", "board", "LNineMilesOff$Board;", true)
  | 5 => ("NineMilesOff", "track", "LNineMilesOff$Track;", true)
  | 6 => ("NineMilesOff", "play", "LNineMilesOff$Play;", true)
  | 7 => ("NineMilesOff", "shelves", "[LNineMilesOff$Shelf;", true)
  | _ => ("NineMilesOff", "noShelf", "LNineMilesOff$Shelf;", true)
def tyX10 : Nat → FieldType := fun k => match k with
  | 0 => .object "NineMilesOff$Land"
  | 1 => .object "NineMilesOff$Land"
  | 2 => .object "NineMilesOff$Land"
  | 3 => .boolean
  | 4 => .object "NineMilesOff$Board"
  | 5 => .object "NineMilesOff$Track"
  | 6 => .object "NineMilesOff$Play"
  | 7 => .array (.object "NineMilesOff$Shelf")
  | _ => .object "NineMilesOff$Shelf"
abbrev wsX100 : List Cond := u_ws RX10 TX10 9
theorem nmX10 : ∀ a, a < 9 → ∀ b, b < 9 → a ≠ b → (TX10 a).2.1 ≠ (TX10 b).2.1 := by decide +kernel
theorem tyX10_ok : ∀ k, k < 9 → parseFieldDescriptor (TX10 k).2.2.1 = some (tyX10 k) := by decide +kernel
abbrev cX10_init : ByteArray := prog_1_method_1_code
def yX10_init : MethodName := ⟨RX10, "<init>", "()V"⟩
abbrev cX10_land : ByteArray := prog_1_method_2_code
def yX10_land : MethodName := ⟨RX10, "land", "(I)I"⟩
abbrev cX10_ground : ByteArray := prog_1_method_3_code
def yX10_ground : MethodName := ⟨RX10, "ground", "(II)I"⟩
abbrev cX10_lays : ByteArray := prog_1_method_4_code
def yX10_lays : MethodName := ⟨RX10, "lays", "(II)I"⟩
abbrev cX10_stands : ByteArray := prog_1_method_5_code
def yX10_stands : MethodName := ⟨RX10, "stands", "(II)I"⟩
abbrev cX10_set : ByteArray := prog_1_method_6_code
def yX10_set : MethodName := ⟨RX10, "set", "(II)I"⟩
abbrev cX10_go : ByteArray := prog_1_method_7_code
def yX10_go : MethodName := ⟨RX10, "go", "(II)I"⟩
abbrev cX10_far : ByteArray := prog_1_method_8_code
def yX10_far : MethodName := ⟨RX10, "far", "(II)I"⟩
abbrev cX10_steps : ByteArray := prog_1_method_9_code
def yX10_steps : MethodName := ⟨RX10, "steps", "(II)I"⟩
abbrev cX10_pairs : ByteArray := prog_1_method_10_code
def yX10_pairs : MethodName := ⟨RX10, "pairs", "(I)I"⟩
abbrev cX10_islands : ByteArray := prog_1_method_11_code
def yX10_islands : MethodName := ⟨RX10, "islands", "()I"⟩
abbrev cX10_island : ByteArray := prog_1_method_12_code
def yX10_island : MethodName := ⟨RX10, "island", "(I)I"⟩
abbrev cX10_middle : ByteArray := prog_1_method_13_code
def yX10_middle : MethodName := ⟨RX10, "middle", "(I)I"⟩
abbrev cX10_see : ByteArray := prog_1_method_14_code
def yX10_see : MethodName := ⟨RX10, "see", "(II)I"⟩
abbrev cX10_way : ByteArray := prog_1_method_15_code
def yX10_way : MethodName := ⟨RX10, "way", "(III)I"⟩
abbrev cX10_hinders : ByteArray := prog_1_method_16_code
def yX10_hinders : MethodName := ⟨RX10, "hinders", "(II)I"⟩
abbrev cX10_needs : ByteArray := prog_1_method_17_code
def yX10_needs : MethodName := ⟨RX10, "needs", "(II)I"⟩
abbrev cX10_within : ByteArray := prog_1_method_18_code
def yX10_within : MethodName := ⟨RX10, "within", "(I)I"⟩
abbrev cX10_ways : ByteArray := prog_1_method_19_code
def yX10_ways : MethodName := ⟨RX10, "ways", "(I)J"⟩
abbrev cX10_rounds : ByteArray := prog_1_method_20_code
def yX10_rounds : MethodName := ⟨RX10, "rounds", "(I)J"⟩
abbrev cX10_late : ByteArray := prog_1_method_21_code
def yX10_late : MethodName := ⟨RX10, "late", "(II)I"⟩
abbrev cX10_hisWay : ByteArray := prog_1_method_22_code
def yX10_hisWay : MethodName := ⟨RX10, "hisWay", "(II)J"⟩
abbrev cX10_letter : ByteArray := prog_1_method_23_code
def yX10_letter : MethodName := ⟨RX10, "letter", "(I)I"⟩
abbrev cX10_third : ByteArray := prog_1_method_24_code
def yX10_third : MethodName := ⟨RX10, "third", "(I)I"⟩
abbrev cX10_game : ByteArray := prog_1_method_25_code
def yX10_game : MethodName := ⟨RX10, "game", "(I)I"⟩
abbrev cX10_snow : ByteArray := prog_1_method_26_code
def yX10_snow : MethodName := ⟨RX10, "snow", "(III)J"⟩
abbrev cX10_mean : ByteArray := prog_1_method_27_code
def yX10_mean : MethodName := ⟨RX10, "mean", "(I)J"⟩
abbrev cX10_curve : ByteArray := prog_1_method_28_code
def yX10_curve : MethodName := ⟨RX10, "curve", "(I)I"⟩
abbrev cX10_judge : ByteArray := prog_1_method_29_code
def yX10_judge : MethodName := ⟨RX10, "judge", "(I)I"⟩
abbrev cX10_seeds : ByteArray := prog_1_method_30_code
def yX10_seeds : MethodName := ⟨RX10, "seeds", "(III)I"⟩
abbrev cX10_image : ByteArray := prog_1_method_31_code
def yX10_image : MethodName := ⟨RX10, "image", "()I"⟩
abbrev cX10_restore : ByteArray := prog_1_method_32_code
def yX10_restore : MethodName := ⟨RX10, "restore", "()I"⟩
abbrev cX10_count : ByteArray := prog_1_method_33_code
def yX10_count : MethodName := ⟨RX10, "count", "(I)I"⟩
abbrev cX10_keep : ByteArray := prog_1_method_34_code
def yX10_keep : MethodName := ⟨RX10, "keep", "(IIII)I"⟩
abbrev cX10_row : ByteArray := prog_1_method_35_code
def yX10_row : MethodName := ⟨RX10, "row", "(III)I"⟩
abbrev cX10_put : ByteArray := prog_1_method_36_code
def yX10_put : MethodName := ⟨RX10, "put", "(III)I"⟩
abbrev cX10_element : ByteArray := prog_1_method_37_code
def yX10_element : MethodName := ⟨RX10, "element", "(II)J"⟩
abbrev cX10_copy : ByteArray := prog_1_method_38_code
def yX10_copy : MethodName := ⟨RX10, "copy", "(IIIII)I"⟩
abbrev cX10_cost : ByteArray := prog_1_method_39_code
def yX10_cost : MethodName := ⟨RX10, "cost", "(I)I"⟩
abbrev cX10_toss : ByteArray := prog_1_method_40_code
def yX10_toss : MethodName := ⟨RX10, "toss", "(I)I"⟩
abbrev cX10_isCell : ByteArray := prog_1_method_41_code
def yX10_isCell : MethodName := ⟨RX10, "isCell", "(J)Z"⟩
abbrev cX10_isWay : ByteArray := prog_1_method_42_code
def yX10_isWay : MethodName := ⟨RX10, "isWay", "(I)Z"⟩
abbrev cX10_isEither : ByteArray := prog_1_method_43_code
def yX10_isEither : MethodName := ⟨RX10, "isEither", "(I)Z"⟩
abbrev cX10_isDistance : ByteArray := prog_1_method_44_code
def yX10_isDistance : MethodName := ⟨RX10, "isDistance", "(I)Z"⟩
abbrev cX10_isShelf : ByteArray := prog_1_method_45_code
def yX10_isShelf : MethodName := ⟨RX10, "isShelf", "(I)Z"⟩
abbrev cX10_shelfAt : ByteArray := prog_1_method_46_code
def yX10_shelfAt : MethodName := ⟨RX10, "shelfAt", "(I)LNineMilesOff$Shelf;"⟩
abbrev cX10_refusalOfRow : ByteArray := prog_1_method_47_code
def yX10_refusalOfRow : MethodName := ⟨RX10, "refusalOfRow", "(I)I"⟩
abbrev cX10_refusalOfGround : ByteArray := prog_1_method_48_code
def yX10_refusalOfGround : MethodName := ⟨RX10, "refusalOfGround", "(I)I"⟩
abbrev cX10_refusalUnless : ByteArray := prog_1_method_49_code
def yX10_refusalUnless : MethodName := ⟨RX10, "refusalUnless", "(II)I"⟩
abbrev cX10_refusalOfTrack : ByteArray := prog_1_method_50_code
def yX10_refusalOfTrack : MethodName := ⟨RX10, "refusalOfTrack", "(I)I"⟩
abbrev cX10_refusalToSee : ByteArray := prog_1_method_51_code
def yX10_refusalToSee : MethodName := ⟨RX10, "refusalToSee", "(II)I"⟩
abbrev cX10_refusalToCount : ByteArray := prog_1_method_52_code
def yX10_refusalToCount : MethodName := ⟨RX10, "refusalToCount", "(I)I"⟩
abbrev cX10_ofLongs : ByteArray := prog_1_method_53_code
def yX10_ofLongs : MethodName := ⟨RX10, "ofLongs", "(I)J"⟩
abbrev cX10_nextSeed : ByteArray := prog_1_method_54_code
def yX10_nextSeed : MethodName := ⟨RX10, "nextSeed", "(I)I"⟩
abbrev cX10_drawOf : ByteArray := prog_1_method_55_code
def yX10_drawOf : MethodName := ⟨RX10, "drawOf", "(I)I"⟩
def RX11 : String := "NineMilesOffModel"
def TX11 : u_T := fun k => match k with
  | 0 => ("NineMilesOffModel", "kinds", "[I", true)
  | 1 => ("NineMilesOffModel", "figures", "[I", true)
  | 2 => ("NineMilesOffModel", "winter", "I", false)
  | 3 => ("NineMilesOffModel", "nearest", "I", false)
  | 4 => ("NineMilesOffModel", "farthest", "I", false)
  | 5 => ("NineMilesOffModel", "his", "I", false)
  | 6 => ("NineMilesOffModel", "hers", "I", false)
  | 7 => ("NineMilesOffModel", "day", "I", false)
  | 8 => ("NineMilesOffModel", "stopped", "I", false)
  | 9 => ("NineMilesOffModel", "pain", "I", false)
  | 10 => ("NineMilesOffModel", "holdsWhat", "[I", true)
  | 11 => ("NineMilesOffModel", "keptKind", "[I", true)
  | 12 => ("NineMilesOffModel", "keptFigure", "[I", true)
  | 13 => ("NineMilesOffModel", "rowSort", "[I", true)
  | 14 => ("NineMilesOffModel", "rowMany", "[I", true)
  | 15 => ("NineMilesOffModel", "rows", "[J", true)
  | 16 => ("NineMilesOffModel", "thrown", "I", false)
  | 17 => ("NineMilesOffModel", "thoughtOpen", "I", false)
  | 18 => ("NineMilesOffModel", "reading", "I", false)
  | 19 => ("NineMilesOffModel", "at", "I", false)
  | 20 => ("NineMilesOffModel", "isBad", "Z", false)
  | 21 => ("NineMilesOffModel", "statements", "I", false)
  | 22 => ("NineMilesOffModel", "placeIn", "[I", true)
  | 23 => ("NineMilesOffModel", "letterOf", "[I", true)
  | 24 => ("NineMilesOffModel", "told", "[I", true)
  | 25 => ("NineMilesOffModel", "kept", "[I", true)
  | 26 => ("NineMilesOffModel", "imaged", "[I", true)
  | 27 => ("NineMilesOffModel", "hasImage", "Z", false)
  | 28 => ("NineMilesOffModel", "place0", "I", false)
  | 29 => ("NineMilesOffModel", "isTaking", "Z", false)
  | 30 => ("NineMilesOffModel", "keptIn", "[I", false)
  | 31 => ("NineMilesOffModel", "steps", "[I", true)
  | 32 => ("NineMilesOffModel", "days", "[I", true)
  | 33 => ("NineMilesOffModel", "queue", "[I", true)
  | 34 => ("NineMilesOffModel", "waysTo", "[J", true)
  | 35 => ("NineMilesOffModel", "waysThen", "[J", true)
  | 36 => ("NineMilesOffModel", "unsure", "[I", true)
  | 37 => ("NineMilesOffModel", "seed", "I", false)
  | _ => ("NineMilesOffModel", "between", "[J", true)
def tyX11 : Nat → FieldType := fun k => match k with
  | 0 => .array .int
  | 1 => .array .int
  | 2 => .int
  | 3 => .int
  | 4 => .int
  | 5 => .int
  | 6 => .int
  | 7 => .int
  | 8 => .int
  | 9 => .int
  | 10 => .array .int
  | 11 => .array .int
  | 12 => .array .int
  | 13 => .array .int
  | 14 => .array .int
  | 15 => .array .long
  | 16 => .int
  | 17 => .int
  | 18 => .int
  | 19 => .int
  | 20 => .boolean
  | 21 => .int
  | 22 => .array .int
  | 23 => .array .int
  | 24 => .array .int
  | 25 => .array .int
  | 26 => .array .int
  | 27 => .boolean
  | 28 => .int
  | 29 => .boolean
  | 30 => .array .int
  | 31 => .array .int
  | 32 => .array .int
  | 33 => .array .int
  | 34 => .array .long
  | 35 => .array .long
  | 36 => .array .int
  | 37 => .int
  | _ => .array .long
abbrev wsX110 : List Cond := u_ws RX11 TX11 39
theorem nmX11 : ∀ a, a < 39 → ∀ b, b < 39 → a ≠ b → (TX11 a).2.1 ≠ (TX11 b).2.1 := by decide +kernel
theorem tyX11_ok : ∀ k, k < 39 → parseFieldDescriptor (TX11 k).2.2.1 = some (tyX11 k) := by decide +kernel
abbrev cX11_init : ByteArray := prog_13_method_1_code
def yX11_init : MethodName := ⟨RX11, "<init>", "()V"⟩
abbrev cX11_thrown : ByteArray := prog_13_method_2_code
def yX11_thrown : MethodName := ⟨RX11, "thrown", "()I"⟩
abbrev cX11_in : ByteArray := prog_13_method_3_code
def yX11_in : MethodName := ⟨RX11, "in", "(JJJ)Z"⟩
abbrev cX11_isCell : ByteArray := prog_13_method_4_code
def yX11_isCell : MethodName := ⟨RX11, "isCell", "(J)Z"⟩
abbrev cX11_plainly : ByteArray := prog_13_method_5_code
def yX11_plainly : MethodName := ⟨RX11, "plainly", "(I)I"⟩
abbrev cX11_isOn : ByteArray := prog_13_method_6_code
def yX11_isOn : MethodName := ⟨RX11, "isOn", "(JI)Z"⟩
abbrev cX11_onesOf : ByteArray := prog_13_method_7_code
def yX11_onesOf : MethodName := ⟨RX11, "onesOf", "(J)I"⟩
abbrev cX11_heightOf : ByteArray := prog_13_method_8_code
def yX11_heightOf : MethodName := ⟨RX11, "heightOf", "(I)I"⟩
abbrev cX11_isOpen : ByteArray := prog_13_method_9_code
def yX11_isOpen : MethodName := ⟨RX11, "isOpen", "(I)Z"⟩
abbrev cX11_chanceOf : ByteArray := prog_13_method_10_code
def yX11_chanceOf : MethodName := ⟨RX11, "chanceOf", "(I)I"⟩
abbrev cX11_farOf : ByteArray := prog_13_method_11_code
def yX11_farOf : MethodName := ⟨RX11, "farOf", "(II)I"⟩
abbrev cX11_isOff : ByteArray := prog_13_method_12_code
def yX11_isOff : MethodName := ⟨RX11, "isOff", "(II)Z"⟩
abbrev cX11_beside : ByteArray := prog_13_method_13_code
def yX11_beside : MethodName := ⟨RX11, "beside", "(II)I"⟩
abbrev cX11_goneTo : ByteArray := prog_13_method_14_code
def yX11_goneTo : MethodName := ⟨RX11, "goneTo", "(II)I"⟩
abbrev cX11_openCells : ByteArray := prog_13_method_15_code
def yX11_openCells : MethodName := ⟨RX11, "openCells", "()J"⟩
abbrev cX11_goOn : ByteArray := prog_13_method_16_code
def yX11_goOn : MethodName := ⟨RX11, "goOn", "(J)J"⟩
abbrev cX11_here : ByteArray := prog_13_method_17_code
def yX11_here : MethodName := ⟨RX11, "here", "()I"⟩
abbrev cX11_readDigits : ByteArray := prog_13_method_18_code
def yX11_readDigits : MethodName := ⟨RX11, "readDigits", "(I)I"⟩
abbrev cX11_isLetter : ByteArray := prog_13_method_19_code
def yX11_isLetter : MethodName := ⟨RX11, "isLetter", "(I)Z"⟩
abbrev cX11_readStatement : ByteArray := prog_13_method_20_code
def yX11_readStatement : MethodName := ⟨RX11, "readStatement", "()V"⟩
abbrev cX11_canGo : ByteArray := prog_13_method_21_code
def yX11_canGo : MethodName := ⟨RX11, "canGo", "(II)Z"⟩
abbrev cX11_goBoth : ByteArray := prog_13_method_22_code
def yX11_goBoth : MethodName := ⟨RX11, "goBoth", "(II)V"⟩
abbrev cX11_comes : ByteArray := prog_13_method_23_code
def yX11_comes : MethodName := ⟨RX11, "comes", "(I)Z"⟩
abbrev cX11_land : ByteArray := prog_13_method_24_code
def yX11_land : MethodName := ⟨RX11, "land", "(I)I"⟩
abbrev cX11_carry : ByteArray := prog_13_method_25_code
def yX11_carry : MethodName := ⟨RX11, "carry", "(I)I"⟩
abbrev cX11_carryAll : ByteArray := prog_13_method_26_code
def yX11_carryAll : MethodName := ⟨RX11, "carryAll", "([IZ)V"⟩
abbrev cX11_image : ByteArray := prog_13_method_27_code
def yX11_image : MethodName := ⟨RX11, "image", "()I"⟩
abbrev cX11_restore : ByteArray := prog_13_method_28_code
def yX11_restore : MethodName := ⟨RX11, "restore", "()I"⟩
abbrev cX11_ground : ByteArray := prog_13_method_29_code
def yX11_ground : MethodName := ⟨RX11, "ground", "(II)I"⟩
abbrev cX11_wrongKept : ByteArray := prog_13_method_30_code
def yX11_wrongKept : MethodName := ⟨RX11, "wrongKept", "(I)I"⟩
abbrev cX11_lays : ByteArray := prog_13_method_31_code
def yX11_lays : MethodName := ⟨RX11, "lays", "(II)I"⟩
abbrev cX11_stands : ByteArray := prog_13_method_32_code
def yX11_stands : MethodName := ⟨RX11, "stands", "(II)I"⟩
abbrev cX11_set : ByteArray := prog_13_method_33_code
def yX11_set : MethodName := ⟨RX11, "set", "(II)I"⟩
abbrev cX11_go : ByteArray := prog_13_method_34_code
def yX11_go : MethodName := ⟨RX11, "go", "(II)I"⟩
abbrev cX11_far : ByteArray := prog_13_method_35_code
def yX11_far : MethodName := ⟨RX11, "far", "(II)I"⟩
abbrev cX11_layStepsFrom : ByteArray := prog_13_method_36_code
def yX11_layStepsFrom : MethodName := ⟨RX11, "layStepsFrom", "(I)V"⟩
abbrev cX11_steps : ByteArray := prog_13_method_37_code
def yX11_steps : MethodName := ⟨RX11, "steps", "(II)I"⟩
abbrev cX11_isPair : ByteArray := prog_13_method_38_code
def yX11_isPair : MethodName := ⟨RX11, "isPair", "(II)Z"⟩
abbrev cX11_pairMany : ByteArray := prog_13_method_39_code
def yX11_pairMany : MethodName := ⟨RX11, "pairMany", "()I"⟩
abbrev cX11_pairs : ByteArray := prog_13_method_40_code
def yX11_pairs : MethodName := ⟨RX11, "pairs", "(I)I"⟩
abbrev cX11_partWith : ByteArray := prog_13_method_41_code
def yX11_partWith : MethodName := ⟨RX11, "partWith", "(I)J"⟩
abbrev cX11_islands : ByteArray := prog_13_method_42_code
def yX11_islands : MethodName := ⟨RX11, "islands", "()I"⟩
abbrev cX11_island : ByteArray := prog_13_method_43_code
def yX11_island : MethodName := ⟨RX11, "island", "(I)I"⟩
abbrev cX11_middle : ByteArray := prog_13_method_44_code
def yX11_middle : MethodName := ⟨RX11, "middle", "(I)I"⟩
abbrev cX11_layDaysFrom : ByteArray := prog_13_method_45_code
def yX11_layDaysFrom : MethodName := ⟨RX11, "layDaysFrom", "(II)V"⟩
abbrev cX11_areBoth : ByteArray := prog_13_method_46_code
def yX11_areBoth : MethodName := ⟨RX11, "areBoth", "()Z"⟩
abbrev cX11_wrongTwo : ByteArray := prog_13_method_47_code
def yX11_wrongTwo : MethodName := ⟨RX11, "wrongTwo", "(II)I"⟩
abbrev cX11_seeDays : ByteArray := prog_13_method_48_code
def yX11_seeDays : MethodName := ⟨RX11, "seeDays", "(II)I"⟩
abbrev cX11_see : ByteArray := prog_13_method_49_code
def yX11_see : MethodName := ⟨RX11, "see", "(II)I"⟩
abbrev cX11_way : ByteArray := prog_13_method_50_code
def yX11_way : MethodName := ⟨RX11, "way", "(III)I"⟩
abbrev cX11_hinders : ByteArray := prog_13_method_51_code
def yX11_hinders : MethodName := ⟨RX11, "hinders", "(II)I"⟩
abbrev cX11_needs : ByteArray := prog_13_method_52_code
def yX11_needs : MethodName := ⟨RX11, "needs", "(II)I"⟩
abbrev cX11_within : ByteArray := prog_13_method_53_code
def yX11_within : MethodName := ⟨RX11, "within", "(I)I"⟩
abbrev cX11_layWays : ByteArray := prog_13_method_54_code
def yX11_layWays : MethodName := ⟨RX11, "layWays", "(I)V"⟩
abbrev cX11_wrongWays : ByteArray := prog_13_method_55_code
def yX11_wrongWays : MethodName := ⟨RX11, "wrongWays", "(I)I"⟩
abbrev cX11_ways : ByteArray := prog_13_method_56_code
def yX11_ways : MethodName := ⟨RX11, "ways", "(I)J"⟩
abbrev cX11_rounds : ByteArray := prog_13_method_57_code
def yX11_rounds : MethodName := ⟨RX11, "rounds", "(I)J"⟩
abbrev cX11_late : ByteArray := prog_13_method_58_code
def yX11_late : MethodName := ⟨RX11, "late", "(II)I"⟩
abbrev cX11_wrongCells : ByteArray := prog_13_method_59_code
def yX11_wrongCells : MethodName := ⟨RX11, "wrongCells", "(I)I"⟩
abbrev cX11_notOff : ByteArray := prog_13_method_60_code
def yX11_notOff : MethodName := ⟨RX11, "notOff", "(IIJ)J"⟩
abbrev cX11_toTheLast : ByteArray := prog_13_method_61_code
def yX11_toTheLast : MethodName := ⟨RX11, "toTheLast", "(IIJ)J"⟩
abbrev cX11_hisWay : ByteArray := prog_13_method_62_code
def yX11_hisWay : MethodName := ⟨RX11, "hisWay", "(II)J"⟩
abbrev cX11_letter : ByteArray := prog_13_method_63_code
def yX11_letter : MethodName := ⟨RX11, "letter", "(I)I"⟩
abbrev cX11_third : ByteArray := prog_13_method_64_code
def yX11_third : MethodName := ⟨RX11, "third", "(I)I"⟩
abbrev cX11_farBy : ByteArray := prog_13_method_65_code
def yX11_farBy : MethodName := ⟨RX11, "farBy", "(II)I"⟩
abbrev cX11_rests : ByteArray := prog_13_method_66_code
def yX11_rests : MethodName := ⟨RX11, "rests", "(II)Z"⟩
abbrev cX11_game : ByteArray := prog_13_method_67_code
def yX11_game : MethodName := ⟨RX11, "game", "(I)I"⟩
abbrev cX11_divisor : ByteArray := prog_13_method_68_code
def yX11_divisor : MethodName := ⟨RX11, "divisor", "(JJ)J"⟩
abbrev cX11_partOf : ByteArray := prog_13_method_69_code
def yX11_partOf : MethodName := ⟨RX11, "partOf", "(JJI)J"⟩
abbrev cX11_isWay : ByteArray := prog_13_method_70_code
def yX11_isWay : MethodName := ⟨RX11, "isWay", "(JII)Z"⟩
abbrev cX11_snow : ByteArray := prog_13_method_71_code
def yX11_snow : MethodName := ⟨RX11, "snow", "(III)J"⟩
abbrev cX11_mean : ByteArray := prog_13_method_72_code
def yX11_mean : MethodName := ⟨RX11, "mean", "(I)J"⟩
abbrev cX11_curve : ByteArray := prog_13_method_73_code
def yX11_curve : MethodName := ⟨RX11, "curve", "(I)I"⟩
abbrev cX11_skipped : ByteArray := prog_13_method_74_code
def yX11_skipped : MethodName := ⟨RX11, "skipped", "(I)J"⟩
abbrev cX11_stayOrGo : ByteArray := prog_13_method_75_code
def yX11_stayOrGo : MethodName := ⟨RX11, "stayOrGo", "(J)J"⟩
abbrev cX11_judge : ByteArray := prog_13_method_76_code
def yX11_judge : MethodName := ⟨RX11, "judge", "(I)I"⟩
abbrev cX11_drawBelow : ByteArray := prog_13_method_77_code
def yX11_drawBelow : MethodName := ⟨RX11, "drawBelow", "(I)I"⟩
abbrev cX11_seeds : ByteArray := prog_13_method_78_code
def yX11_seeds : MethodName := ⟨RX11, "seeds", "(III)I"⟩
abbrev cX11_count : ByteArray := prog_13_method_79_code
def yX11_count : MethodName := ⟨RX11, "count", "(I)I"⟩
abbrev cX11_keep : ByteArray := prog_13_method_80_code
def yX11_keep : MethodName := ⟨RX11, "keep", "(IIII)I"⟩
abbrev cX11_wrongRow : ByteArray := prog_13_method_81_code
def yX11_wrongRow : MethodName := ⟨RX11, "wrongRow", "(I)I"⟩
abbrev cX11_narrowed : ByteArray := prog_13_method_82_code
def yX11_narrowed : MethodName := ⟨RX11, "narrowed", "(II)J"⟩
abbrev cX11_row : ByteArray := prog_13_method_83_code
def yX11_row : MethodName := ⟨RX11, "row", "(III)I"⟩
abbrev cX11_put : ByteArray := prog_13_method_84_code
def yX11_put : MethodName := ⟨RX11, "put", "(III)I"⟩
abbrev cX11_element : ByteArray := prog_13_method_85_code
def yX11_element : MethodName := ⟨RX11, "element", "(II)J"⟩
abbrev cX11_copy : ByteArray := prog_13_method_86_code
def yX11_copy : MethodName := ⟨RX11, "copy", "(IIIII)I"⟩
abbrev cX11_costOf : ByteArray := prog_13_method_87_code
def yX11_costOf : MethodName := ⟨RX11, "costOf", "(II)I"⟩
abbrev cX11_cost : ByteArray := prog_13_method_88_code
def yX11_cost : MethodName := ⟨RX11, "cost", "(I)I"⟩
abbrev cX11_toss : ByteArray := prog_13_method_89_code
def yX11_toss : MethodName := ⟨RX11, "toss", "(I)I"⟩
def RJx145de : String := "java/io/Serializable"
def TJx145de : u_T := fun k => match k with
  | _ => ("", "", "", false)
def tyJx145de : Nat → FieldType := fun k => match k with
  | _ => .int
abbrev wsJx145de0 : List Cond := u_ws RJx145de TJx145de 0
theorem nmJx145de : ∀ a, a < 0 → ∀ b, b < 0 → a ≠ b → (TJx145de a).2.1 ≠ (TJx145de b).2.1 := by decide +kernel
theorem tyJx145de_ok : ∀ k, k < 0 → parseFieldDescriptor (TJx145de k).2.2.1 = some (tyJx145de k) := by decide +kernel
def RJ13 : String := "java/lang/Long"
def TJ13 : u_T := fun k => match k with
  | _ => ("", "", "", false)
def tyJ13 : Nat → FieldType := fun k => match k with
  | _ => .int
abbrev wsJ130 : List Cond := u_ws RJ13 TJ13 0
theorem nmJ13 : ∀ a, a < 0 → ∀ b, b < 0 → a ≠ b → (TJ13 a).2.1 ≠ (TJ13 b).2.1 := by decide +kernel
theorem tyJ13_ok : ∀ k, k < 0 → parseFieldDescriptor (TJ13 k).2.2.1 = some (tyJ13 k) := by decide +kernel
abbrev cJ13_bitCount_95d88 : ByteArray := prog_17_method_50_code
def yJ13_bitCount_95d88 : MethodName := ⟨RJ13, "bitCount", "(J)I"⟩
def RJ9 : String := "java/lang/Math"
def TJ9 : u_T := fun k => match k with
  | _ => ("", "", "", false)
def tyJ9 : Nat → FieldType := fun k => match k with
  | _ => .int
abbrev wsJ90 : List Cond := u_ws RJ9 TJ9 0
theorem nmJ9 : ∀ a, a < 0 → ∀ b, b < 0 → a ≠ b → (TJ9 a).2.1 ≠ (TJ9 b).2.1 := by decide +kernel
theorem tyJ9_ok : ∀ k, k < 0 → parseFieldDescriptor (TJ9 k).2.2.1 = some (tyJ9 k) := by decide +kernel
abbrev cJ9_abs_0f7a4 : ByteArray := prog_18_method_59_code
def yJ9_abs_0f7a4 : MethodName := ⟨RJ9, "abs", "(I)I"⟩
abbrev cJ9_max_7cf53 : ByteArray := prog_18_method_65_code
def yJ9_max_7cf53 : MethodName := ⟨RJ9, "max", "(II)I"⟩
abbrev cJ9_min_7cf53 : ByteArray := prog_18_method_69_code
def yJ9_min_7cf53 : MethodName := ⟨RJ9, "min", "(II)I"⟩
def RJ0 : String := "java/lang/String"
def TJ0 : u_T := fun k => match k with
  | _ => ("", "", "", false)
def tyJ0 : Nat → FieldType := fun k => match k with
  | _ => .int
abbrev wsJ00 : List Cond := u_ws RJ0 TJ0 0
theorem nmJ0 : ∀ a, a < 0 → ∀ b, b < 0 → a ≠ b → (TJ0 a).2.1 ≠ (TJ0 b).2.1 := by decide +kernel
theorem tyJ0_ok : ∀ k, k < 0 → parseFieldDescriptor (TJ0 k).2.2.1 = some (tyJ0 k) := by decide +kernel
def RJ10 : String := "java/lang/System"
def TJ10 : u_T := fun k => match k with
  | _ => ("", "", "", false)
def tyJ10 : Nat → FieldType := fun k => match k with
  | _ => .int
abbrev wsJ100 : List Cond := u_ws RJ10 TJ10 0
theorem nmJ10 : ∀ a, a < 0 → ∀ b, b < 0 → a ≠ b → (TJ10 a).2.1 ≠ (TJ10 b).2.1 := by decide +kernel
theorem tyJ10_ok : ∀ k, k < 0 → parseFieldDescriptor (TJ10 k).2.2.1 = some (tyJ10 k) := by decide +kernel
def RJ7 : String := "java/util/Arrays"
def TJ7 : u_T := fun k => match k with
  | _ => ("", "", "", false)
def tyJ7 : Nat → FieldType := fun k => match k with
  | _ => .int
abbrev wsJ70 : List Cond := u_ws RJ7 TJ7 0
theorem nmJ7 : ∀ a, a < 0 → ∀ b, b < 0 → a ≠ b → (TJ7 a).2.1 ≠ (TJ7 b).2.1 := by decide +kernel
theorem tyJ7_ok : ∀ k, k < 0 → parseFieldDescriptor (TJ7 k).2.2.1 = some (tyJ7 k) := by decide +kernel
abbrev cJ7_fill_d0a16 : ByteArray := prog_24_method_101_code
def yJ7_fill_d0a16 : MethodName := ⟨RJ7, "fill", "([JJ)V"⟩
abbrev cJ7_fill_53178 : ByteArray := prog_24_method_103_code
def yJ7_fill_53178 : MethodName := ⟨RJ7, "fill", "([II)V"⟩
def RL : String := "NineMilesOffLaw"
abbrev cL_element : ByteArray := method_3_code
def yL_element : MethodName := ⟨RL, "element", "(LNineMilesOff;II[J)I"⟩
abbrev cL_law : ByteArray := code
def yL_law : MethodName := ⟨RL, "law", "([I)Z"⟩
abbrev vwCl : List vw_C := [(RX0, TX0, 9), (RX3, TX3, 10), (RX4, TX4, 1), (RX5, TX5, 6), (RX9, TX9, 3), (RX10, TX10, 9), (RX11, TX11, 39)]
def W_0 : List Cond := [.classLink RL 8 RX10, .instantiable RX10 9, .initialized RX10, .classLink RL 18 RX11, .instantiable RX11 39, .initialized RX11, .arrayClass .long, .methodLink RL 17 yX10_init, .instanceMethod yX10_init, .code yX10_init cX10_init 2 none, .methodLink RX10 3 objectInit, .instanceMethod objectInit, .code objectInit ⟨#[0xb1]⟩ 1 none, .classLink RX10 9 RX3, .instantiable RX3 10, .initialized RX3, .fieldLink RX10 12 "NineMilesOff" "now" "LNineMilesOff$Land;", .fieldLink RX10 16 "NineMilesOff" "kept" "LNineMilesOff$Land;", .fieldLink RX10 19 "NineMilesOff" "trial" "LNineMilesOff$Land;", .classLink RX10 22 RX0, .instantiable RX0 9, .initialized RX0, .fieldLink RX10 25 "NineMilesOff" "board" "LNineMilesOff$Board;", .classLink RX10 29 RX9, .instantiable RX9 3, .initialized RX9, .fieldLink RX10 32 "NineMilesOff" "track" "LNineMilesOff$Track;", .classLink RX10 36 RX4, .instantiable RX4 1, .initialized RX4]
def W_1 : List Cond := [.fieldLink RX10 39 "NineMilesOff" "play" "LNineMilesOff$Play;", .classLink RX10 43 RX5, .instantiable RX5 6, .initialized RX5, .fieldLink RX10 46 "NineMilesOff" "noShelf" "LNineMilesOff$Shelf;", .fieldLink RX10 50 "NineMilesOff" "shelves" "[LNineMilesOff$Shelf;", .instanceMethod yX3_init, .code yX3_init cX3_init 1 none, .methodLink RX3 3 objectInit, .arrayClass .int, .fieldLink RX3 9 "NineMilesOff$Land" "kinds" "[I", .fieldLink RX3 15 "NineMilesOff$Land" "figures" "[I", .fieldLink RX3 18 "NineMilesOff$Land" "winter" "I", .fieldLink RX3 22 "NineMilesOff$Land" "nearest" "I", .fieldLink RX3 25 "NineMilesOff$Land" "farthest" "I", .fieldLink RX3 28 "NineMilesOff$Land" "his" "I", .fieldLink RX3 31 "NineMilesOff$Land" "hers" "I", .fieldLink RX3 34 "NineMilesOff$Land" "day" "I", .fieldLink RX3 37 "NineMilesOff$Land" "stopped" "I", .fieldLink RX3 40 "NineMilesOff$Land" "pain" "I", .instanceMethod yX0_init, .code yX0_init cX0_init 1 none, .methodLink RX0 3 objectInit, .fieldLink RX0 9 "NineMilesOff$Board" "heights" "[I", .fieldLink RX0 15 "NineMilesOff$Board" "fars" "[I", .fieldLink RX0 18 "NineMilesOff$Board" "near" "[J", .fieldLink RX0 22 "NineMilesOff$Board" "fit" "[J", .fieldLink RX0 25 "NineMilesOff$Board" "come" "[J", .fieldLink RX0 28 "NineMilesOff$Board" "fresh" "[J", .fieldLink RX0 31 "NineMilesOff$Board" "days" "[I"]
def W_2 : List Cond := [.fieldLink RX0 34 "NineMilesOff$Board" "walks" "[J", .fieldLink RX0 37 "NineMilesOff$Board" "half" "[J", .instanceMethod yX9_init, .code yX9_init cX9_init 1 none, .methodLink RX9 3 objectInit, .fieldLink RX9 9 "NineMilesOff$Track" "hers" "[J", .fieldLink RX9 15 "NineMilesOff$Track" "left" "[J", .fieldLink RX9 18 "NineMilesOff$Track" "leftThen" "[J", .instanceMethod yX4_init, .code yX4_init cX4_init 1 none, .methodLink RX4 3 objectInit, .fieldLink RX4 9 "NineMilesOff$Play" "fars" "[I", .instanceMethod yX5_init, .code yX5_init cX5_init 1 none, .methodLink RX5 3 objectInit, .fieldLink RX5 11 "NineMilesOff$Shelf" "holds" "I", .fieldLink RX5 15 "NineMilesOff$Shelf" "kind" "I", .fieldLink RX5 18 "NineMilesOff$Shelf" "figure" "I", .fieldLink RX5 21 "NineMilesOff$Shelf" "sort" "I", .fieldLink RX5 24 "NineMilesOff$Shelf" "size" "I", .fieldLink RX5 27 "NineMilesOff$Shelf" "numbers" "[J", .methodLink RL 20 yX11_init, .instanceMethod yX11_init, .code yX11_init cX11_init 1 none, .methodLink RX11 1 objectInit, .fieldLink RX11 7 "NineMilesOffModel" "kinds" "[I", .fieldLink RX11 13 "NineMilesOffModel" "figures" "[I", .fieldLink RX11 16 "NineMilesOffModel" "nearest" "I", .fieldLink RX11 20 "NineMilesOffModel" "farthest" "I", .fieldLink RX11 23 "NineMilesOffModel" "his" "I"]
def W_3 : List Cond := [.fieldLink RX11 26 "NineMilesOffModel" "hers" "I", .fieldLink RX11 29 "NineMilesOffModel" "holdsWhat" "[I", .fieldLink RX11 32 "NineMilesOffModel" "keptKind" "[I", .fieldLink RX11 35 "NineMilesOffModel" "keptFigure" "[I", .fieldLink RX11 38 "NineMilesOffModel" "rowSort" "[I", .fieldLink RX11 41 "NineMilesOffModel" "rowMany" "[I", .fieldLink RX11 44 "NineMilesOffModel" "rows" "[J", .fieldLink RX11 48 "NineMilesOffModel" "thoughtOpen" "I", .fieldLink RX11 51 "NineMilesOffModel" "placeIn" "[I", .fieldLink RX11 54 "NineMilesOffModel" "letterOf" "[I", .fieldLink RX11 57 "NineMilesOffModel" "told" "[I", .fieldLink RX11 60 "NineMilesOffModel" "kept" "[I", .fieldLink RX11 63 "NineMilesOffModel" "imaged" "[I", .fieldLink RX11 66 "NineMilesOffModel" "steps" "[I", .fieldLink RX11 69 "NineMilesOffModel" "days" "[I", .fieldLink RX11 72 "NineMilesOffModel" "queue" "[I", .fieldLink RX11 75 "NineMilesOffModel" "waysTo" "[J", .fieldLink RX11 78 "NineMilesOffModel" "waysThen" "[J", .fieldLink RX11 81 "NineMilesOffModel" "unsure" "[I", .fieldLink RX11 84 "NineMilesOffModel" "between" "[J", .fieldLink RX11 87 "NineMilesOffModel" "thrown" "I", .methodLink RL 21 yX10_land, .instanceMethod yX10_land, .selects RX10 yX10_land yX10_land, .code yX10_land cX10_land 5 (some .int), .fieldLink RX10 62 "NineMilesOff$Shelf" "sort" "I", .methodLink RX10 54 yX10_refusalOfRow, .instanceMethod yX10_refusalOfRow, .selects RX10 yX10_refusalOfRow yX10_refusalOfRow, .code yX10_refusalOfRow cX10_refusalOfRow 2 (some .int)]
def W_4 : List Cond := [.methodLink RX10 385 yX10_refusalUnless, .instanceMethod yX10_refusalUnless, .selects RX10 yX10_refusalUnless yX10_refusalUnless, .code yX10_refusalUnless cX10_refusalUnless 3 (some .int), .fieldLink RX10 327 "NineMilesOff$Shelf" "holds" "I", .methodLink RX10 296 yX10_isShelf, .static yX10_isShelf, .code yX10_isShelf cX10_isShelf 1 (some .boolean), .methodLink RX10 58 yX10_shelfAt, .instanceMethod yX10_shelfAt, .selects RX10 yX10_shelfAt yX10_shelfAt, .code yX10_shelfAt cX10_shelfAt 2 (some (.object "NineMilesOff$Shelf")), .methodLink RX10 66 yX8_firstWrongByte, .static yX8_firstWrongByte, .initialized RX8, .code yX8_firstWrongByte cX8_firstWrongByte 5 (some .int), .fieldLink RX8 11 "NineMilesOff$Shelf" "size" "I", .constantLong RX8 25 (59), .constantLong RX8 27 (48), .constantLong RX8 29 (57), .methodLink RX8 17 yX5_numberAt, .instanceMethod yX5_numberAt, .selects RX5 yX5_numberAt yX5_numberAt, .code yX5_numberAt cX5_numberAt 2 (some .long), .methodLink RX8 21 yX8_digitsBehind, .static yX8_digitsBehind, .code yX8_digitsBehind cX8_digitsBehind 2 (some .int), .methodLink RX10 72 yX3_becomes, .instanceMethod yX3_becomes, .selects RX3 yX3_becomes yX3_becomes]
def W_5 : List Cond := [.code yX3_becomes cX3_becomes 3 none, .methodLink RX10 76 yX8_firstNotDone, .static yX8_firstNotDone, .code yX8_firstNotDone cX8_firstNotDone 4 (some .int), .methodLink RX8 31 yX8_isDone, .static yX8_isDone, .code yX8_isDone cX8_isDone 3 (some .boolean), .methodLink RX8 39 yX8_isLaid, .static yX8_isLaid, .code yX8_isLaid cX8_isLaid 5 (some .boolean), .methodLink RX8 35 yX8_digitAt, .static yX8_digitAt, .code yX8_digitAt cX8_digitAt 2 (some .int), .methodLink RX8 42 yX8_twoDigitsAt, .static yX8_twoDigitsAt, .code yX8_twoDigitsAt cX8_twoDigitsAt 2 (some .int), .methodLink RX8 62 yX2_isKind, .static yX2_isKind, .initialized RX2, .code yX2_isKind cX2_isKind 1 (some .boolean), .static yX10_isCell, .code yX10_isCell cX10_isCell 2 (some .boolean), .constantLong RX10 383 (36), .methodLink RX8 72 yX3_layAt, .instanceMethod yX3_layAt, .selects RX3 yX3_layAt yX3_layAt, .code yX3_layAt cX3_layAt 4 none, .methodLink RX8 45 yX8_isPlaced, .static yX8_isPlaced, .code yX8_isPlaced cX8_isPlaced 3 (some .boolean)]
def W_6 : List Cond := [.methodLink RX8 76 yX3_isOpen, .instanceMethod yX3_isOpen, .selects RX3 yX3_isOpen yX3_isOpen, .code yX3_isOpen cX3_isOpen 2 (some .boolean), .methodLink RX3 53 yX2_isOpen, .static yX2_isOpen, .code yX2_isOpen cX2_isOpen 3 (some .boolean), .methodLink RX8 79 yX3_place, .instanceMethod yX3_place, .selects RX3 yX3_place yX3_place, .code yX3_place cX3_place 3 none, .methodLink RX8 49 yX8_isBound, .static yX8_isBound, .code yX8_isBound cX8_isBound 5 (some .boolean), .fieldLink RX8 86 "NineMilesOff$Land" "nearest" "I", .fieldLink RX8 89 "NineMilesOff$Land" "farthest" "I", .static yX10_isDistance, .code yX10_isDistance cX10_isDistance 1 (some .boolean), .methodLink RX8 52 yX8_isWintered, .static yX8_isWintered, .code yX8_isWintered cX8_isWintered 2 (some .boolean), .fieldLink RX8 95 "NineMilesOff$Land" "winter" "I", .static yX10_isEither, .code yX10_isEither cX10_isEither 1 (some .boolean), .methodLink RX8 56 yX3_goDay, .instanceMethod yX3_goDay, .selects RX3 yX3_goDay yX3_goDay, .code yX3_goDay cX3_goDay 5 (some .boolean), .methodLink RX3 87 yX3_cellBy, .instanceMethod yX3_cellBy]
def W_7 : List Cond := [.selects RX3 yX3_cellBy yX3_cellBy, .code yX3_cellBy cX3_cellBy 4 (some .int), .methodLink RX3 84 yX7_cellTo, .static yX7_cellTo, .initialized RX7, .code yX7_cellTo cX7_cellTo 2 (some .int), .methodLink RX3 60 yX3_isOpen, .methodLink RX3 90 yX3_endDay, .instanceMethod yX3_endDay, .selects RX3 yX3_endDay yX3_endDay, .code yX3_endDay cX3_endDay 4 none, .methodLink RX3 94 yX3_farBetween, .instanceMethod yX3_farBetween, .selects RX3 yX3_farBetween yX3_farBetween, .code yX3_farBetween cX3_farBetween 3 (some .int), .methodLink RX3 79 Lib.Math.abs.name, .static Lib.Math.abs.name, .initialized "java/lang/Math", .code Lib.Math.abs.name Lib.Math.abs.code 1 (some .int), .methodLink RX3 73 yX7_apart, .static yX7_apart, .code yX7_apart cX7_apart 2 (some .int), .methodLink RX7 19 Lib.Math.abs.name, .methodLink RX3 76 yX3_heightAt, .instanceMethod yX3_heightAt, .selects RX3 yX3_heightAt yX3_heightAt, .code yX3_heightAt cX3_heightAt 2 (some .int), .methodLink RX3 49 yX2_heightOf, .static yX2_heightOf, .code yX2_heightOf cX2_heightOf 2 (some .int)]
def W_8 : List Cond := [.methodLink RX10 80 yX8_statementsOf, .static yX8_statementsOf, .code yX8_statementsOf cX8_statementsOf 3 (some .int), .methodLink RL 25 yX11_land, .instanceMethod yX11_land, .selects RX11 yX11_land yX11_land, .code yX11_land cX11_land 4 (some .int), .fieldLink RX11 127 "NineMilesOffModel" "reading" "I", .fieldLink RX11 124 "NineMilesOffModel" "at" "I", .fieldLink RX11 130 "NineMilesOffModel" "isBad" "Z", .fieldLink RX11 142 "NineMilesOffModel" "statements" "I", .methodLink RX11 168 yX11_wrongRow, .instanceMethod yX11_wrongRow, .selects RX11 yX11_wrongRow yX11_wrongRow, .code yX11_wrongRow cX11_wrongRow 2 (some .int), .constantLong RX11 203 (7), .methodLink RX11 92 yX11_in, .static yX11_in, .code yX11_in cX11_in 6 (some .boolean), .methodLink RX11 171 yX11_readStatement, .instanceMethod yX11_readStatement, .selects RX11 yX11_readStatement yX11_readStatement, .code yX11_readStatement cX11_readStatement 4 none, .methodLink RX11 134 yX11_here, .instanceMethod yX11_here, .selects RX11 yX11_here yX11_here, .code yX11_here cX11_here 1 (some .int), .methodLink RX11 145 yX11_isLetter, .static yX11_isLetter, .code yX11_isLetter cX11_isLetter 1 (some .boolean)]
def W_9 : List Cond := [.methodLink RX11 148 yX11_readDigits, .instanceMethod yX11_readDigits, .selects RX11 yX11_readDigits yX11_readDigits, .code yX11_readDigits cX11_readDigits 4 (some .int), .constantLong RX11 138 (48), .constantLong RX11 140 (57), .methodLink RX11 174 yX11_carryAll, .instanceMethod yX11_carryAll, .selects RX11 yX11_carryAll yX11_carryAll, .code yX11_carryAll cX11_carryAll 4 none, .fieldLink RX11 184 "NineMilesOffModel" "keptIn" "[I", .fieldLink RX11 181 "NineMilesOffModel" "isTaking" "Z", .fieldLink RX11 187 "NineMilesOffModel" "place0" "I", .fieldLink RX11 96 "NineMilesOffModel" "winter" "I", .fieldLink RX11 151 "NineMilesOffModel" "day" "I", .fieldLink RX11 154 "NineMilesOffModel" "stopped" "I", .fieldLink RX11 157 "NineMilesOffModel" "pain" "I", .methodLink RX11 190 yX11_carry, .instanceMethod yX11_carry, .selects RX11 yX11_carry yX11_carry, .code yX11_carry cX11_carry 2 (some .int), .methodLink RX11 178 yX11_comes, .instanceMethod yX11_comes, .selects RX11 yX11_comes yX11_comes, .code yX11_comes cX11_comes 5 (some .boolean), .methodLink RX11 160 yX11_canGo, .instanceMethod yX11_canGo, .selects RX11 yX11_canGo yX11_canGo, .code yX11_canGo cX11_canGo 3 (some .boolean), .methodLink RX11 121 yX11_goneTo]
def W_10 : List Cond := [.instanceMethod yX11_goneTo, .selects RX11 yX11_goneTo yX11_goneTo, .code yX11_goneTo cX11_goneTo 4 (some .int), .methodLink RX11 110 yX11_beside, .static yX11_beside, .code yX11_beside cX11_beside 2 (some .int), .methodLink RX11 113 yX11_isOpen, .instanceMethod yX11_isOpen, .selects RX11 yX11_isOpen yX11_isOpen, .code yX11_isOpen cX11_isOpen 2 (some .boolean), .methodLink RX11 164 yX11_goBoth, .instanceMethod yX11_goBoth, .selects RX11 yX11_goBoth yX11_goBoth, .code yX11_goBoth cX11_goBoth 4 none, .methodLink RX11 106 yX11_farOf, .instanceMethod yX11_farOf, .selects RX11 yX11_farOf yX11_farOf, .code yX11_farOf cX11_farOf 3 (some .int), .methodLink RX11 99 yX11_plainly, .static yX11_plainly, .code yX11_plainly cX11_plainly 1 (some .int), .methodLink RX11 103 yX11_heightOf, .instanceMethod yX11_heightOf, .selects RX11 yX11_heightOf yX11_heightOf, .code yX11_heightOf cX11_heightOf 2 (some .int), .methodLink RL 26 yX10_ground, .instanceMethod yX10_ground, .selects RX10 yX10_ground yX10_ground, .code yX10_ground cX10_ground 3 (some .int), .methodLink RX10 83 yX10_isCell]
def W_11 : List Cond := [.methodLink RX10 87 yX3_kindAt, .instanceMethod yX3_kindAt, .selects RX3 yX3_kindAt yX3_kindAt, .code yX3_kindAt cX3_kindAt 2 (some .int), .methodLink RX10 90 yX3_figureAt, .instanceMethod yX3_figureAt, .selects RX3 yX3_figureAt yX3_figureAt, .code yX3_figureAt cX3_figureAt 2 (some .int), .methodLink RX10 93 yX3_heightAt, .methodLink RX10 96 yX3_isOpen, .methodLink RX10 100 yX3_chanceAt, .instanceMethod yX3_chanceAt, .selects RX3 yX3_chanceAt yX3_chanceAt, .code yX3_chanceAt cX3_chanceAt 2 (some .int), .methodLink RX3 57 yX2_chanceOf, .static yX2_chanceOf, .code yX2_chanceOf cX2_chanceOf 2 (some .int), .methodLink RL 30 yX11_ground, .instanceMethod yX11_ground, .selects RX11 yX11_ground yX11_ground, .code yX11_ground cX11_ground 3 (some .int), .methodLink RX11 196 yX11_isCell, .static yX11_isCell, .code yX11_isCell cX11_isCell 2 (some .boolean), .constantLong RX11 90 (35), .methodLink RX11 200 yX11_chanceOf, .instanceMethod yX11_chanceOf, .selects RX11 yX11_chanceOf yX11_chanceOf, .code yX11_chanceOf cX11_chanceOf 2 (some .int), .methodLink RL 31 yX10_lays]
def W_12 : List Cond := [.instanceMethod yX10_lays, .selects RX10 yX10_lays yX10_lays, .code yX10_lays cX10_lays 5 (some .int), .fieldLink RX10 106 "NineMilesOff$Shelf" "kind" "I", .fieldLink RX10 109 "NineMilesOff$Shelf" "figure" "I", .methodLink RX10 103 yX10_refusalOfGround, .instanceMethod yX10_refusalOfGround, .selects RX10 yX10_refusalOfGround yX10_refusalOfGround, .code yX10_refusalOfGround cX10_refusalOfGround 2 (some .int), .methodLink RX10 112 yX3_layAt, .methodLink RL 34 yX11_lays, .instanceMethod yX11_lays, .selects RX11 yX11_lays yX11_lays, .code yX11_lays cX11_lays 5 (some .int), .methodLink RX11 205 yX11_wrongKept, .instanceMethod yX11_wrongKept, .selects RX11 yX11_wrongKept yX11_wrongKept, .code yX11_wrongKept cX11_wrongKept 2 (some .int), .methodLink RL 35 yX10_stands, .instanceMethod yX10_stands, .selects RX10 yX10_stands yX10_stands, .code yX10_stands cX10_stands 4 (some .int), .fieldLink RX10 119 "NineMilesOff$Land" "his" "I", .fieldLink RX10 122 "NineMilesOff$Land" "hers" "I", .methodLink RX10 116 yX10_isEither, .methodLink RX10 125 yX3_place, .methodLink RL 38 yX11_stands, .instanceMethod yX11_stands, .selects RX11 yX11_stands yX11_stands, .code yX11_stands cX11_stands 4 (some .int)]
def W_13 : List Cond := [.methodLink RL 39 yX10_set, .instanceMethod yX10_set, .selects RX10 yX10_set yX10_set, .code yX10_set cX10_set 4 (some .int), .fieldLink RX10 132 "NineMilesOff$Land" "nearest" "I", .fieldLink RX10 135 "NineMilesOff$Land" "farthest" "I", .fieldLink RX10 138 "NineMilesOff$Land" "winter" "I", .methodLink RX10 129 yX10_isDistance, .methodLink RL 42 yX11_set, .instanceMethod yX11_set, .selects RX11 yX11_set yX11_set, .code yX11_set cX11_set 4 (some .int), .constantLong RX11 208 (2), .constantLong RX11 210 (20), .methodLink RL 43 yX10_go, .instanceMethod yX10_go, .selects RX10 yX10_go yX10_go, .code yX10_go cX10_go 3 (some .int), .methodLink RX10 141 yX10_isWay, .static yX10_isWay, .code yX10_isWay cX10_isWay 1 (some .boolean), .methodLink RX10 144 yX3_goDay, .methodLink RX10 148 yX3_farBetween, .methodLink RL 46 yX11_go, .instanceMethod yX11_go, .selects RX11 yX11_go yX11_go, .code yX11_go cX11_go 3 (some .int), .constantLong RX11 212 (4), .methodLink RL 47 yX10_far, .instanceMethod yX10_far]
def W_14 : List Cond := [.selects RX10 yX10_far yX10_far, .code yX10_far cX10_far 3 (some .int), .methodLink RL 50 yX11_far, .instanceMethod yX11_far, .selects RX11 yX11_far yX11_far, .code yX11_far cX11_far 3 (some .int), .methodLink RL 51 yX10_steps, .instanceMethod yX10_steps, .selects RX10 yX10_steps yX10_steps, .code yX10_steps cX10_steps 3 (some .int), .methodLink RX10 152 yX3_openCells, .instanceMethod yX3_openCells, .selects RX3 yX3_openCells yX3_openCells, .code yX3_openCells cX3_openCells 4 (some .long), .methodLink RX3 63 yX7_bit, .static yX7_bit, .code yX7_bit cX7_bit 1 (some .long), .methodLink RX10 156 yX7_stepsBetween, .static yX7_stepsBetween, .code yX7_stepsBetween cX7_stepsBetween 7 (some .int), .methodLink RX7 11 yX7_bit, .methodLink RX7 15 yX7_has, .static yX7_has, .code yX7_has cX7_has 3 (some .boolean), .methodLink RX7 35 yX7_spread, .static yX7_spread, .code yX7_spread cX7_spread 4 (some .long), .constantLong RX7 29 (-1090785346), .constantLong RX7 31 (-34905131041), .constantLong RX7 33 (68719476735)]
def W_15 : List Cond := [.methodLink RL 54 yX11_steps, .instanceMethod yX11_steps, .selects RX11 yX11_steps yX11_steps, .code yX11_steps cX11_steps 3 (some .int), .methodLink RX11 222 yX11_layStepsFrom, .instanceMethod yX11_layStepsFrom, .selects RX11 yX11_layStepsFrom yX11_layStepsFrom, .code yX11_layStepsFrom cX11_layStepsFrom 6 none, .methodLink RX11 214 yX11_openCells, .instanceMethod yX11_openCells, .selects RX11 yX11_openCells yX11_openCells, .code yX11_openCells cX11_openCells 4 (some .long), .methodLink RX11 117 yX11_isOn, .static yX11_isOn, .code yX11_isOn cX11_isOn 3 (some .boolean), .methodLink RX11 218 yX11_goOn, .instanceMethod yX11_goOn, .selects RX11 yX11_goOn yX11_goOn, .code yX11_goOn cX11_goOn 8 (some .long), .methodLink RL 55 yX10_pairs, .instanceMethod yX10_pairs, .selects RX10 yX10_pairs yX10_pairs, .code yX10_pairs cX10_pairs 2 (some .int), .methodLink RX10 162 yX0_lay, .instanceMethod yX0_lay, .selects RX0 yX0_lay yX0_lay, .code yX0_lay cX0_lay 5 none, .methodLink RX0 46 Lib.Math.abs.name, .fieldLink RX0 57 "NineMilesOff$Land" "nearest" "I", .fieldLink RX0 61 "NineMilesOff$Land" "farthest" "I"]
def W_16 : List Cond := [.methodLink RX0 40 yX3_heightAt, .methodLink RX0 51 yX7_apart, .methodLink RX0 64 yX0_bound, .instanceMethod yX0_bound, .selects RX0 yX0_bound yX0_bound, .code yX0_bound cX0_bound 8 none, .methodLink RX0 68 yX3_openCells, .methodLink RX0 72 yX0_admit, .instanceMethod yX0_admit, .selects RX0 yX0_admit yX0_admit, .code yX0_admit cX0_admit 4 none, .methodLink RX0 76 yX7_has, .methodLink RX10 165 yX0_pairsInAll, .instanceMethod yX0_pairsInAll, .selects RX0 yX0_pairsInAll yX0_pairsInAll, .code yX0_pairsInAll cX0_pairsInAll 1 (some .int), .methodLink RX0 84 yX0_bitsOf, .static yX0_bitsOf, .code yX0_bitsOf cX0_bitsOf 3 (some .int), .methodLink RX0 88 yJ13_bitCount_95d88, .static yJ13_bitCount_95d88, .initialized RJ13, .code yJ13_bitCount_95d88 cJ13_bitCount_95d88 2 (some .int), .constantLong RJ13 314 (6148914691236517205), .constantLong RJ13 316 (3689348814741910323), .constantLong RJ13 318 (1085102592571150095), .methodLink RX10 169 yX0_pairAt, .instanceMethod yX0_pairAt, .selects RX0 yX0_pairAt yX0_pairAt, .code yX0_pairAt cX0_pairAt 5 (some .int)]
def W_17 : List Cond := [.methodLink RL 58 yX11_pairs, .instanceMethod yX11_pairs, .selects RX11 yX11_pairs yX11_pairs, .code yX11_pairs cX11_pairs 4 (some .int), .methodLink RX11 232 yX11_pairMany, .instanceMethod yX11_pairMany, .selects RX11 yX11_pairMany yX11_pairMany, .code yX11_pairMany cX11_pairMany 3 (some .int), .methodLink RX11 229 yX11_isPair, .instanceMethod yX11_isPair, .selects RX11 yX11_isPair yX11_isPair, .code yX11_isPair cX11_isPair 3 (some .boolean), .methodLink RX11 226 yX11_isOff, .instanceMethod yX11_isOff, .selects RX11 yX11_isOff yX11_isOff, .code yX11_isOff cX11_isOff 3 (some .boolean), .methodLink RL 59 yX10_islands, .instanceMethod yX10_islands, .selects RX10 yX10_islands yX10_islands, .code yX10_islands cX10_islands 1 (some .int), .methodLink RX10 172 yX7_islandsOf, .static yX7_islandsOf, .code yX7_islandsOf cX7_islandsOf 6 (some .int), .constantLong RX7 47 (-1), .methodLink RX7 43 yX7_islandOf, .static yX7_islandOf, .code yX7_islandOf cX7_islandOf 3 (some .long), .methodLink RX7 39 yX7_cellsWithin, .static yX7_cellsWithin, .code yX7_cellsWithin cX7_cellsWithin 7 (some .long)]
def W_18 : List Cond := [.methodLink RL 63 yX11_islands, .instanceMethod yX11_islands, .selects RX11 yX11_islands yX11_islands, .code yX11_islands cX11_islands 5 (some .int), .methodLink RX11 235 yX11_partWith, .instanceMethod yX11_partWith, .selects RX11 yX11_partWith yX11_partWith, .code yX11_partWith cX11_partWith 5 (some .long), .methodLink RL 64 yX10_island, .instanceMethod yX10_island, .selects RX10 yX10_island yX10_island, .code yX10_island cX10_island 4 (some .int), .methodLink RX10 176 yX7_has, .methodLink RX10 180 yX7_islandOf, .methodLink RX10 184 yJ13_bitCount_95d88, .methodLink RL 67 yX11_island, .instanceMethod yX11_island, .selects RX11 yX11_island yX11_island, .code yX11_island cX11_island 2 (some .int), .methodLink RX11 239 yX11_onesOf, .static yX11_onesOf, .code yX11_onesOf cX11_onesOf 5 (some .int), .methodLink RL 68 yX10_middle, .instanceMethod yX10_middle, .selects RX10 yX10_middle yX10_middle, .code yX10_middle cX10_middle 5 (some .int), .methodLink RX10 189 yX7_middleOf, .static yX7_middleOf, .code yX7_middleOf cX7_middleOf 8 (some .int), .methodLink RX7 55 yX7_largestIsland]
def W_19 : List Cond := [.static yX7_largestIsland, .code yX7_largestIsland cX7_largestIsland 9 (some .long), .methodLink RX7 49 yJ13_bitCount_95d88, .methodLink RX7 58 yX7_greatestSteps, .static yX7_greatestSteps, .code yX7_greatestSteps cX7_greatestSteps 8 (some .int), .methodLink RX10 192 yX7_greatestSteps, .methodLink RL 71 yX11_middle, .instanceMethod yX11_middle, .selects RX11 yX11_middle yX11_middle, .code yX11_middle cX11_middle 9 (some .int), .methodLink RL 72 yX10_see, .instanceMethod yX10_see, .selects RX10 yX10_see yX10_see, .code yX10_see cX10_see 4 (some .int), .methodLink RX10 196 yX10_refusalToSee, .instanceMethod yX10_refusalToSee, .selects RX10 yX10_refusalToSee yX10_refusalToSee, .code yX10_refusalToSee cX10_refusalToSee 3 (some .int), .methodLink RX10 218 yX3_bothStand, .instanceMethod yX3_bothStand, .selects RX3 yX3_bothStand yX3_bothStand, .code yX3_bothStand cX3_bothStand 1 (some .boolean), .methodLink RX10 199 yX0_daysBetween, .instanceMethod yX0_daysBetween, .selects RX0 yX0_daysBetween yX0_daysBetween, .code yX0_daysBetween cX0_daysBetween 6 (some .int), .methodLink RX0 103 yX0_isPair, .instanceMethod yX0_isPair, .selects RX0 yX0_isPair yX0_isPair]
def W_20 : List Cond := [.code yX0_isPair cX0_isPair 3 (some .boolean), .methodLink RX0 127 yX0_start, .instanceMethod yX0_start, .selects RX0 yX0_start yX0_start, .code yX0_start cX0_start 3 none, .methodLink RX0 94 yJ7_fill_53178, .static yJ7_fill_53178, .initialized RJ7, .code yJ7_fill_53178 cJ7_fill_53178 4 none, .methodLink RX0 100 yJ7_fill_d0a16, .static yJ7_fill_d0a16, .code yJ7_fill_d0a16 cJ7_fill_d0a16 5 none, .methodLink RX0 107 yX7_bit, .methodLink RX0 130 yX0_spreadOn, .instanceMethod yX0_spreadOn, .selects RX0 yX0_spreadOn yX0_spreadOn, .code yX0_spreadOn cX0_spreadOn 4 (some .boolean), .constantLong RX0 118 (-1), .methodLink RX0 111 yX0_comeAround, .instanceMethod yX0_comeAround, .selects RX0 yX0_comeAround yX0_comeAround, .code yX0_comeAround cX0_comeAround 6 (some .long), .methodLink RX0 124 yX7_cellTo, .methodLink RX0 114 yX7_spread, .methodLink RX0 120 yX0_mark, .instanceMethod yX0_mark, .selects RX0 yX0_mark yX0_mark, .code yX0_mark cX0_mark 6 none, .methodLink RL 75 yX11_see, .instanceMethod yX11_see]
def W_21 : List Cond := [.selects RX11 yX11_see yX11_see, .code yX11_see cX11_see 3 (some .int), .methodLink RX11 250 yX11_wrongTwo, .instanceMethod yX11_wrongTwo, .selects RX11 yX11_wrongTwo yX11_wrongTwo, .code yX11_wrongTwo cX11_wrongTwo 3 (some .int), .methodLink RX11 243 yX11_areBoth, .instanceMethod yX11_areBoth, .selects RX11 yX11_areBoth yX11_areBoth, .code yX11_areBoth cX11_areBoth 1 (some .boolean), .methodLink RX11 253 yX11_seeDays, .instanceMethod yX11_seeDays, .selects RX11 yX11_seeDays yX11_seeDays, .code yX11_seeDays cX11_seeDays 4 (some .int), .methodLink RX11 247 yX11_layDaysFrom, .instanceMethod yX11_layDaysFrom, .selects RX11 yX11_layDaysFrom yX11_layDaysFrom, .code yX11_layDaysFrom cX11_layDaysFrom 8 none, .methodLink RL 76 yX10_way, .instanceMethod yX10_way, .selects RX10 yX10_way yX10_way, .code yX10_way cX10_way 6 (some .int), .methodLink RX10 203 yX0_pairOnWay, .instanceMethod yX0_pairOnWay, .selects RX0 yX0_pairOnWay yX0_pairOnWay, .code yX0_pairOnWay cX0_pairOnWay 6 (some .int), .methodLink RX0 134 yX0_nextPair, .instanceMethod yX0_nextPair, .selects RX0 yX0_nextPair yX0_nextPair, .code yX0_nextPair cX0_nextPair 10 (some .int)]
def W_22 : List Cond := [.methodLink RX0 137 yX0_daysLeft, .instanceMethod yX0_daysLeft, .selects RX0 yX0_daysLeft yX0_daysLeft, .code yX0_daysLeft cX0_daysLeft 3 (some .int), .methodLink RL 80 yX11_way, .instanceMethod yX11_way, .selects RX11 yX11_way yX11_way, .code yX11_way cX11_way 14 (some .int), .methodLink RL 81 yX10_hinders, .instanceMethod yX10_hinders, .selects RX10 yX10_hinders yX10_hinders, .code yX10_hinders cX10_hinders 10 (some .int), .methodLink RX10 207 yX7_bit, .methodLink RX10 211 yX0_admit, .methodLink RL 84 yX11_hinders, .instanceMethod yX11_hinders, .selects RX11 yX11_hinders yX11_hinders, .code yX11_hinders cX11_hinders 7 (some .int), .methodLink RL 85 yX10_needs, .instanceMethod yX10_needs, .selects RX10 yX10_needs yX10_needs, .code yX10_needs cX10_needs 7 (some .int), .methodLink RX10 215 yX0_bound, .methodLink RL 88 yX11_needs, .instanceMethod yX11_needs, .selects RX11 yX11_needs yX11_needs, .code yX11_needs cX11_needs 5 (some .int), .methodLink RL 89 yX10_within, .instanceMethod yX10_within, .selects RX10 yX10_within yX10_within]
def W_23 : List Cond := [.code yX10_within cX10_within 2 (some .int), .methodLink RX10 222 yX0_pairsWithin, .instanceMethod yX0_pairsWithin, .selects RX0 yX0_pairsWithin yX0_pairsWithin, .code yX0_pairsWithin cX0_pairsWithin 5 (some .int), .methodLink RL 92 yX11_within, .instanceMethod yX11_within, .selects RX11 yX11_within yX11_within, .code yX11_within cX11_within 4 (some .int), .constantLong RX11 256 (40), .methodLink RL 93 yX10_ways, .instanceMethod yX10_ways, .selects RX10 yX10_ways yX10_ways, .code yX10_ways cX10_ways 3 (some .long), .methodLink RX10 225 yX10_refusalToCount, .instanceMethod yX10_refusalToCount, .selects RX10 yX10_refusalToCount yX10_refusalToCount, .code yX10_refusalToCount cX10_refusalToCount 2 (some .int), .methodLink RX10 228 yX10_ofLongs, .static yX10_ofLongs, .code yX10_ofLongs cX10_ofLongs 1 (some .long), .constantLong RX10 392 (1000000000), .methodLink RX10 231 yX0_walk, .instanceMethod yX0_walk, .selects RX0 yX0_walk yX0_walk, .code yX0_walk cX0_walk 5 none, .methodLink RX0 140 yX0_walkHim, .instanceMethod yX0_walkHim, .selects RX0 yX0_walkHim yX0_walkHim, .code yX0_walkHim cX0_walkHim 5 none]
def W_24 : List Cond := [.methodLink RX0 143 yX0_walkHer, .instanceMethod yX0_walkHer, .selects RX0 yX0_walkHer yX0_walkHer, .code yX0_walkHer cX0_walkHer 5 none, .methodLink RX10 234 yX0_walksInAll, .instanceMethod yX0_walksInAll, .selects RX0 yX0_walksInAll yX0_walksInAll, .code yX0_walksInAll cX0_walksInAll 4 (some .long), .methodLink RL 97 yX11_ways, .instanceMethod yX11_ways, .selects RX11 yX11_ways yX11_ways, .code yX11_ways cX11_ways 5 (some .long), .constant RX11 263 (1000000000), .methodLink RX11 260 yX11_wrongWays, .instanceMethod yX11_wrongWays, .selects RX11 yX11_wrongWays yX11_wrongWays, .code yX11_wrongWays cX11_wrongWays 2 (some .int), .constantLong RX11 258 (10), .methodLink RX11 264 yX11_layWays, .instanceMethod yX11_layWays, .selects RX11 yX11_layWays yX11_layWays, .code yX11_layWays cX11_layWays 7 none, .methodLink RL 98 yX10_rounds, .instanceMethod yX10_rounds, .selects RX10 yX10_rounds yX10_rounds, .code yX10_rounds cX10_rounds 3 (some .long), .methodLink RX10 237 yX0_walksTo, .instanceMethod yX0_walksTo, .selects RX0 yX0_walksTo yX0_walksTo, .code yX0_walksTo cX0_walksTo 3 (some .long)]
def W_25 : List Cond := [.methodLink RL 101 yX11_rounds, .instanceMethod yX11_rounds, .selects RX11 yX11_rounds yX11_rounds, .code yX11_rounds cX11_rounds 2 (some .long), .methodLink RL 102 yX10_late, .instanceMethod yX10_late, .selects RX10 yX10_late yX10_late, .code yX10_late cX10_late 8 (some .int), .constantLong RX10 251 (-1), .methodLink RX10 241 yX7_cellsWithin, .methodLink RX10 245 yX3_cellBy, .methodLink RX10 248 yX0_nearOf, .instanceMethod yX0_nearOf, .selects RX0 yX0_nearOf yX0_nearOf, .code yX0_nearOf cX0_nearOf 2 (some .long), .methodLink RL 105 yX11_late, .instanceMethod yX11_late, .selects RX11 yX11_late yX11_late, .code yX11_late cX11_late 10 (some .int), .constantLong RX11 267 (8), .methodLink RL 106 yX10_hisWay, .instanceMethod yX10_hisWay, .selects RX10 yX10_hisWay yX10_hisWay, .code yX10_hisWay cX10_hisWay 6 (some .long), .methodLink RX10 253 yX10_refusalOfTrack, .instanceMethod yX10_refusalOfTrack, .selects RX10 yX10_refusalOfTrack yX10_refusalOfTrack, .code yX10_refusalOfTrack cX10_refusalOfTrack 3 (some .int), .methodLink RX10 388 yX9_isOfCells, .static yX9_isOfCells]
def W_26 : List Cond := [.code yX9_isOfCells cX9_isOfCells 2 (some .boolean), .fieldLink RX9 21 "NineMilesOff$Shelf" "size" "I", .methodLink RX9 27 yX5_numberAt, .methodLink RX10 256 yX9_follow, .instanceMethod yX9_follow, .selects RX9 yX9_follow yX9_follow, .code yX9_follow cX9_follow 8 (some .long), .methodLink RX9 49 yX7_spread, .methodLink RX9 61 yX9_fitOn, .static yX9_fitOn, .code yX9_fitOn cX9_fitOn 5 (some .long), .methodLink RX9 56 yX0_nearOf, .methodLink RL 109 yX11_hisWay, .instanceMethod yX11_hisWay, .selects RX11 yX11_hisWay yX11_hisWay, .code yX11_hisWay cX11_hisWay 6 (some .long), .methodLink RX11 273 yX11_wrongCells, .instanceMethod yX11_wrongCells, .selects RX11 yX11_wrongCells yX11_wrongCells, .code yX11_wrongCells cX11_wrongCells 4 (some .int), .methodLink RX11 269 yX11_notOff, .instanceMethod yX11_notOff, .selects RX11 yX11_notOff yX11_notOff, .code yX11_notOff cX11_notOff 8 (some .long), .methodLink RX11 276 yX11_toTheLast, .instanceMethod yX11_toTheLast, .selects RX11 yX11_toTheLast yX11_toTheLast, .code yX11_toTheLast cX11_toTheLast 8 (some .long), .methodLink RL 110 yX10_letter, .instanceMethod yX10_letter]
def W_27 : List Cond := [.selects RX10 yX10_letter yX10_letter, .code yX10_letter cX10_letter 5 (some .int), .methodLink RX10 260 yX9_bestDay, .instanceMethod yX9_bestDay, .selects RX9 yX9_bestDay yX9_bestDay, .code yX9_bestDay cX9_bestDay 12 (some .int), .methodLink RX9 65 Lib.Math.min.name, .static Lib.Math.min.name, .code Lib.Math.min.name Lib.Math.min.code 2 (some .int), .methodLink RX9 44 yX7_bit, .methodLink RX9 71 yX9_leftAround, .instanceMethod yX9_leftAround, .selects RX9 yX9_leftAround yX9_leftAround, .code yX9_leftAround cX9_leftAround 6 (some .long), .methodLink RX9 82 yX7_cellTo, .methodLink RX9 74 yX7_has, .methodLink RX9 78 yX9_worstOf, .instanceMethod yX9_worstOf, .selects RX9 yX9_worstOf yX9_worstOf, .code yX9_worstOf cX9_worstOf 5 (some .int), .methodLink RX9 90 Lib.Math.max.name, .static Lib.Math.max.name, .code Lib.Math.max.name Lib.Math.max.code 2 (some .int), .methodLink RX9 85 yJ13_bitCount_95d88, .methodLink RL 113 yX11_letter, .instanceMethod yX11_letter, .selects RX11 yX11_letter yX11_letter, .code yX11_letter cX11_letter 11 (some .int), .methodLink RL 114 yX10_third, .instanceMethod yX10_third]
def W_28 : List Cond := [.selects RX10 yX10_third yX10_third, .code yX10_third cX10_third 4 (some .int), .methodLink RX10 264 yX7_leastOf, .static yX7_leastOf, .code yX7_leastOf cX7_leastOf 3 (some .int), .methodLink RL 117 yX11_third, .instanceMethod yX11_third, .selects RX11 yX11_third yX11_third, .code yX11_third cX11_third 6 (some .int), .methodLink RL 118 yX10_game, .instanceMethod yX10_game, .selects RX10 yX10_game yX10_game, .code yX10_game cX10_game 2 (some .int), .methodLink RX10 267 yX4_lay, .instanceMethod yX4_lay, .selects RX4 yX4_lay yX4_lay, .code yX4_lay cX4_lay 7 none, .fieldLink RX4 15 "NineMilesOff$Land" "his" "I", .fieldLink RX4 25 "NineMilesOff$Land" "hers" "I", .methodLink RX4 21 yX3_cellBy, .methodLink RX4 28 yX3_farBetween, .methodLink RX10 268 yX4_firstHeld, .instanceMethod yX4_firstHeld, .selects RX4 yX4_firstHeld yX4_firstHeld, .code yX4_firstHeld cX4_firstHeld 3 (some .int), .methodLink RX4 35 yX4_farOf, .instanceMethod yX4_farOf, .selects RX4 yX4_farOf yX4_farOf, .code yX4_farOf cX4_farOf 3 (some .int), .methodLink RX4 38 yX4_isHeld]
def W_29 : List Cond := [.instanceMethod yX4_isHeld, .selects RX4 yX4_isHeld yX4_isHeld, .code yX4_isHeld cX4_isHeld 7 (some .boolean), .methodLink RX10 271 yX4_leastSure, .instanceMethod yX4_leastSure, .selects RX4 yX4_leastSure yX4_leastSure, .code yX4_leastSure cX4_leastSure 4 (some .int), .methodLink RX4 42 yX4_worstOf, .instanceMethod yX4_worstOf, .selects RX4 yX4_worstOf yX4_worstOf, .code yX4_worstOf cX4_worstOf 4 (some .int), .methodLink RX4 46 Lib.Math.max.name, .methodLink RL 121 yX11_game, .instanceMethod yX11_game, .selects RX11 yX11_game yX11_game, .code yX11_game cX11_game 7 (some .int), .methodLink RX11 282 yX11_rests, .instanceMethod yX11_rests, .selects RX11 yX11_rests yX11_rests, .code yX11_rests cX11_rests 8 (some .boolean), .methodLink RX11 279 yX11_farBy, .instanceMethod yX11_farBy, .selects RX11 yX11_farBy yX11_farBy, .code yX11_farBy cX11_farBy 5 (some .int), .methodLink RL 122 yX10_snow, .instanceMethod yX10_snow, .selects RX10 yX10_snow yX10_snow, .code yX10_snow cX10_snow 8 (some .long), .constantLong RX10 281 (10), .methodLink RX10 274 yX3_unsureCells]
def W_30 : List Cond := [.instanceMethod yX3_unsureCells, .selects RX3 yX3_unsureCells yX3_unsureCells, .code yX3_unsureCells cX3_unsureCells 4 (some .long), .methodLink RX3 69 yX3_chanceAt, .methodLink RX10 283 yX6_likely, .static yX6_likely, .initialized RX6, .code yX6_likely cX6_likely 13 (some .long), .methodLink RX6 26 Lib.Math.min.name, .methodLink RX6 9 yX3_sureCells, .instanceMethod yX3_sureCells, .selects RX3 yX3_sureCells yX3_sureCells, .code yX3_sureCells cX3_sureCells 4 (some .long), .methodLink RX6 15 yX3_unsureCells, .methodLink RX6 18 yJ13_bitCount_95d88, .methodLink RX6 32 yX6_passableOf, .static yX6_passableOf, .code yX6_passableOf cX6_passableOf 7 (some .long), .methodLink RX6 46 yX7_has, .methodLink RX6 50 yX7_bit, .methodLink RX6 36 yX7_stepsBetween, .methodLink RX6 42 yX6_weightOf, .static yX6_weightOf, .code yX6_weightOf cX6_weightOf 9 (some .long), .methodLink RX6 54 yX3_chanceAt, .methodLink RX10 287 yX1_partOf, .static yX1_partOf, .initialized RX1, .code yX1_partOf cX1_partOf 7 (some .long), .methodLink RX1 7 yX1_commonDivisor]
def W_31 : List Cond := [.static yX1_commonDivisor, .code yX1_commonDivisor cX1_commonDivisor 11 (some .long), .methodLink RL 126 yX11_snow, .instanceMethod yX11_snow, .selects RX11 yX11_snow yX11_snow, .code yX11_snow cX11_snow 18 (some .long), .constantLong RX11 289 (-1000000001), .constantLong RX11 291 (9), .constantLong RX11 293 (-1000000003), .methodLink RX11 295 yX11_isWay, .static yX11_isWay, .code yX11_isWay cX11_isWay 12 (some .boolean), .methodLink RX11 299 yX11_partOf, .static yX11_partOf, .code yX11_partOf cX11_partOf 7 (some .long), .methodLink RX11 285 yX11_divisor, .static yX11_divisor, .code yX11_divisor cX11_divisor 10 (some .long), .methodLink RL 127 yX10_mean, .instanceMethod yX10_mean, .selects RX10 yX10_mean yX10_mean, .code yX10_mean cX10_mean 2 (some .long), .methodLink RX10 293 yX0_farsInAll, .instanceMethod yX0_farsInAll, .selects RX0 yX0_farsInAll yX0_farsInAll, .code yX0_farsInAll cX0_farsInAll 5 (some .long), .methodLink RL 130 yX11_mean, .instanceMethod yX11_mean, .selects RX11 yX11_mean yX11_mean, .code yX11_mean cX11_mean 5 (some .long)]
def W_32 : List Cond := [.methodLink RL 131 yX10_curve, .instanceMethod yX10_curve, .selects RX10 yX10_curve yX10_curve, .code yX10_curve cX10_curve 2 (some .int), .methodLink RL 134 yX11_curve, .instanceMethod yX11_curve, .selects RX11 yX11_curve yX11_curve, .code yX11_curve cX11_curve 4 (some .int), .methodLink RL 135 yX10_judge, .instanceMethod yX10_judge, .selects RX10 yX10_judge yX10_judge, .code yX10_judge cX10_judge 3 (some .int), .methodLink RX10 299 yX9_firstWrongPlace, .static yX9_firstWrongPlace, .code yX9_firstWrongPlace cX9_firstWrongPlace 11 (some .int), .fieldLink RX9 41 "NineMilesOff$Land" "his" "I", .methodLink RX9 35 yX3_openCells, .methodLink RX9 53 yX5_leastNumber, .instanceMethod yX5_leastNumber, .selects RX5 yX5_leastNumber yX5_leastNumber, .code yX5_leastNumber cX5_leastNumber 1 (some .long), .constantLong RX5 37 (-128), .constantLong RX5 39 (-2147483648), .constantLong RX5 41 (-9223372036854775808), .methodLink RL 138 yX11_judge, .instanceMethod yX11_judge, .selects RX11 yX11_judge yX11_judge, .code yX11_judge cX11_judge 9 (some .int), .methodLink RX11 309 yX11_stayOrGo, .instanceMethod yX11_stayOrGo]
def W_33 : List Cond := [.selects RX11 yX11_stayOrGo yX11_stayOrGo, .code yX11_stayOrGo cX11_stayOrGo 3 (some .long), .methodLink RX11 312 yX11_skipped, .instanceMethod yX11_skipped, .selects RX11 yX11_skipped yX11_skipped, .code yX11_skipped cX11_skipped 2 (some .long), .constantLong RX11 303 (-128), .constantLong RX11 305 (-2147483648), .constantLong RX11 307 (-9223372036854775808), .methodLink RL 139 yX10_seeds, .instanceMethod yX10_seeds, .selects RX10 yX10_seeds yX10_seeds, .code yX10_seeds cX10_seeds 9 (some .int), .fieldLink RX10 302 "NineMilesOff$Land" "stopped" "I", .fieldLink RX10 305 "NineMilesOff$Land" "pain" "I", .methodLink RX10 308 yX10_nextSeed, .static yX10_nextSeed, .code yX10_nextSeed cX10_nextSeed 1 (some .int), .constant RX10 394 (1103515245), .methodLink RX10 311 yX10_drawOf, .static yX10_drawOf, .code yX10_drawOf cX10_drawOf 1 (some .int), .constant RX10 395 (2147483647), .constant RX10 396 (65536), .methodLink RX10 314 yX3_cellByOrStay, .instanceMethod yX3_cellByOrStay, .selects RX3 yX3_cellByOrStay yX3_cellByOrStay, .code yX3_cellByOrStay cX3_cellByOrStay 4 (some .int), .methodLink RX10 317 yX3_endDay, .methodLink RL 142 yX11_seeds]
def W_34 : List Cond := [.instanceMethod yX11_seeds, .selects RX11 yX11_seeds yX11_seeds, .code yX11_seeds cX11_seeds 12 (some .int), .fieldLink RX11 315 "NineMilesOffModel" "seed" "I", .methodLink RX11 321 yX11_drawBelow, .instanceMethod yX11_drawBelow, .selects RX11 yX11_drawBelow yX11_drawBelow, .code yX11_drawBelow cX11_drawBelow 2 (some .int), .constant RX11 318 (1103515245), .constant RX11 319 (2147483647), .constant RX11 320 (65536), .methodLink RL 143 yX10_image, .instanceMethod yX10_image, .selects RX10 yX10_image yX10_image, .code yX10_image cX10_image 1 (some .int), .fieldLink RX10 320 "NineMilesOff" "taken" "Z", .fieldLink RX10 324 "NineMilesOff$Land" "day" "I", .methodLink RL 146 yX11_image, .instanceMethod yX11_image, .selects RX11 yX11_image yX11_image, .code yX11_image cX11_image 1 (some .int), .fieldLink RX11 193 "NineMilesOffModel" "hasImage" "Z", .methodLink RL 147 yX10_restore, .instanceMethod yX10_restore, .selects RX10 yX10_restore yX10_restore, .code yX10_restore cX10_restore 1 (some .int), .methodLink RL 150 yX11_restore, .instanceMethod yX11_restore, .selects RX11 yX11_restore yX11_restore, .code yX11_restore cX11_restore 1 (some .int)]
def W_35 : List Cond := [.methodLink RL 151 yX10_count, .instanceMethod yX10_count, .selects RX10 yX10_count yX10_count, .code yX10_count cX10_count 2 (some .int), .methodLink RL 154 yX11_count, .instanceMethod yX11_count, .selects RX11 yX11_count yX11_count, .code yX11_count cX11_count 2 (some .int), .methodLink RL 155 yX10_keep, .instanceMethod yX10_keep, .selects RX10 yX10_keep yX10_keep, .code yX10_keep cX10_keep 5 (some .int), .methodLink RX10 330 yX2_isKind, .methodLink RX10 333 yX5_takeGround, .instanceMethod yX5_takeGround, .selects RX5 yX5_takeGround yX5_takeGround, .code yX5_takeGround cX5_takeGround 3 none, .methodLink RL 159 yX11_keep, .instanceMethod yX11_keep, .selects RX11 yX11_keep yX11_keep, .code yX11_keep cX11_keep 5 (some .int), .methodLink RL 160 yX10_row, .instanceMethod yX10_row, .selects RX10 yX10_row yX10_row, .code yX10_row cX10_row 4 (some .int), .methodLink RX10 336 yX5_takeRow, .instanceMethod yX5_takeRow, .selects RX5 yX5_takeRow yX5_takeRow, .code yX5_takeRow cX5_takeRow 3 none, .methodLink RX5 31 yJ7_fill_d0a16]
def W_36 : List Cond := [.methodLink RL 163 yX11_row, .instanceMethod yX11_row, .selects RX11 yX11_row yX11_row, .code yX11_row cX11_row 5 (some .int), .methodLink RL 164 yX10_put, .instanceMethod yX10_put, .selects RX10 yX10_put yX10_put, .code yX10_put cX10_put 5 (some .int), .methodLink RX10 339 yX5_hasPlace, .instanceMethod yX5_hasPlace, .selects RX5 yX5_hasPlace yX5_hasPlace, .code yX5_hasPlace cX5_hasPlace 2 (some .boolean), .methodLink RX10 342 yX5_write, .instanceMethod yX5_write, .selects RX5 yX5_write yX5_write, .code yX5_write cX5_write 3 none, .methodLink RL 167 yX11_put, .instanceMethod yX11_put, .selects RX11 yX11_put yX11_put, .code yX11_put cX11_put 5 (some .int), .methodLink RX11 324 yX11_narrowed, .static yX11_narrowed, .code yX11_narrowed cX11_narrowed 2 (some .long), .methodLink RL 168 yL_element, .static yL_element, .initialized RL, .codeWith yL_element cL_element 5 (some .int) [(0, 9, 12, 13), (0, 9, 16, 15)], .classLink RL 13 "java/lang/IllegalArgumentException", .classLink RL 15 "java/lang/IllegalStateException", .methodLink RL 7 yX10_element]
def W_37 : List Cond := [.instanceMethod yX10_element, .selects RX10 yX10_element yX10_element, .code yX10_element cX10_element 3 (some .long), .classLink RX10 345 "java/lang/IllegalArgumentException", .initialized "java/lang/IllegalArgumentException", .classLink RX10 352 "java/lang/IllegalStateException", .initialized "java/lang/IllegalStateException", .methodLink RX10 359 yX5_numberAt, .methodLink RL 173 yX11_element, .instanceMethod yX11_element, .selects RX11 yX11_element yX11_element, .code yX11_element cX11_element 4 (some .long), .methodLink RL 174 yX11_thrown, .instanceMethod yX11_thrown, .selects RX11 yX11_thrown yX11_thrown, .code yX11_thrown cX11_thrown 1 (some .int), .methodLink RL 177 yX10_copy, .instanceMethod yX10_copy, .selects RX10 yX10_copy yX10_copy, .code yX10_copy cX10_copy 8 (some .int), .fieldLink RX10 365 "NineMilesOff$Shelf" "numbers" "[J", .methodLink RX10 369 arraycopyName, .native arraycopyName, .static arraycopyName, .initialized "java/lang/System", .methodLink RX10 362 yX5_hasPlaces, .instanceMethod yX5_hasPlaces, .selects RX5 yX5_hasPlaces yX5_hasPlaces, .code yX5_hasPlaces cX5_hasPlaces 3 (some .boolean), .methodLink RL 181 yX11_copy]
def W_38 : List Cond := [.instanceMethod yX11_copy, .selects RX11 yX11_copy yX11_copy, .code yX11_copy cX11_copy 7 (some .int), .methodLink RL 182 yX10_cost, .instanceMethod yX10_cost, .selects RX10 yX10_cost yX10_cost, .code yX10_cost cX10_cost 3 (some .int), .methodLink RX10 375 yX2_costOf, .static yX2_costOf, .code yX2_costOf cX2_costOf 2 (some .int), .methodLink RX2 9 Lib.Math.max.name, .methodLink RL 185 yX11_cost, .instanceMethod yX11_cost, .selects RX11 yX11_cost yX11_cost, .code yX11_cost cX11_cost 2 (some .int), .methodLink RX11 328 yX11_costOf, .static yX11_costOf, .code yX11_costOf cX11_costOf 2 (some .int), .methodLink RL 186 yX10_toss, .instanceMethod yX10_toss, .selects RX10 yX10_toss yX10_toss, .codeWith yX10_toss cX10_toss 6 (some .int) [(31, 37, 40, 381), (31, 37, 53, 352), (31, 37, 61, 345)], .classLink RX10 381 "java/lang/UnsupportedOperationException", .methodLink RX10 378 yX2_fail, .static yX2_fail, .code yX2_fail cX2_fail 2 none, .classLink RX2 15 "java/lang/UnsupportedOperationException", .initialized "java/lang/UnsupportedOperationException", .classLink RX2 22 "java/lang/IllegalStateException", .classLink RX2 29 "java/lang/IllegalArgumentException"]
def W_39 : List Cond := [.methodLink RL 189 yX11_toss, .instanceMethod yX11_toss, .selects RX11 yX11_toss yX11_toss, .code yX11_toss cX11_toss 4 (some .int)]
def WS : List Cond := W_0 ++ (W_1 ++ (W_2 ++ (W_3 ++ (W_4 ++ (W_5 ++ (W_6 ++ (W_7 ++ (W_8 ++ (W_9 ++ (W_10 ++ (W_11 ++ (W_12 ++ (W_13 ++ (W_14 ++ (W_15 ++ (W_16 ++ (W_17 ++ (W_18 ++ (W_19 ++ (W_20 ++ (W_21 ++ (W_22 ++ (W_23 ++ (W_24 ++ (W_25 ++ (W_26 ++ (W_27 ++ (W_28 ++ (W_29 ++ (W_30 ++ (W_31 ++ (W_32 ++ (W_33 ++ (W_34 ++ (W_35 ++ (W_36 ++ (W_37 ++ (W_38 ++ (W_39 ++ (wsX00 ++ (wsX30 ++ (wsX40 ++ (wsX50 ++ (wsX90 ++ (wsX100 ++ (wsX110))))))))))))))))))))))))))))))))))))))))))))))
theorem iW0 : ∀ w ∈ W_0, w ∈ WS := fun w h => (List.mem_append_left _ h)
theorem iW1 : ∀ w ∈ W_1, w ∈ WS := fun w h => (List.mem_append_right _ (List.mem_append_left _ h))
theorem iW2 : ∀ w ∈ W_2, w ∈ WS := fun w h => (List.mem_append_right _ (List.mem_append_right _ (List.mem_append_left _ h)))
theorem iW3 : ∀ w ∈ W_3, w ∈ WS := fun w h => (List.mem_append_right _ (List.mem_append_right _ (List.mem_append_right _ (List.mem_append_left _ h))))
theorem iW4 : ∀ w ∈ W_4, w ∈ WS := fun w h => (List.mem_append_right _ (List.mem_append_right _ (List.mem_append_right _ (List.mem_append_right _ (List.mem_append_left _ h)))))
theorem iW5 : ∀ w ∈ W_5, w ∈ WS := fun w h => (List.mem_append_right _ (List.mem_append_right _ (List.mem_append_right _ (List.mem_append_right _ (List.mem_append_right _ (List.mem_append_left _ h))))))
theorem iW6 : ∀ w ∈ W_6, w ∈ WS := fun w h => (List.mem_append_right _ (List.mem_append_right _ (List.mem_append_right _ (List.mem_append_right _ (List.mem_append_right _ (List.mem_append_right _ (List.mem_append_left _ h)))))))
theorem iW7 : ∀ w ∈ W_7, w ∈ WS := fun w h => (List.mem_append_right _ (List.mem_append_right _ (List.mem_append_right _ (List.mem_append_right _ (List.mem_append_right _ (List.mem_append_right _ (List.mem_append_right _ (List.mem_append_left _ h))))))))
theorem iW8 : ∀ w ∈ W_8, w ∈ WS := fun w h => (List.mem_append_right _ (List.mem_append_right _ (List.mem_append_right _ (List.mem_append_right _ (List.mem_append_right _ (List.mem_append_right _ (List.mem_append_right _ (List.mem_append_right _ (List.mem_append_left _ h)))))))))
theorem iW9 : ∀ w ∈ W_9, w ∈ WS := fun w h => (List.mem_append_right _ (List.mem_append_right _ (List.mem_append_right _ (List.mem_append_right _ (List.mem_append_right _ (List.mem_append_right _ (List.mem_append_right _ (List.mem_append_right _ (List.mem_append_right _ (List.mem_append_left _ h))))))))))
theorem iW10 : ∀ w ∈ W_10, w ∈ WS := fun w h => (List.mem_append_right _ (List.mem_append_right _ (List.mem_append_right _ (List.mem_append_right _ (List.mem_append_right _ (List.mem_append_right _ (List.mem_append_right _ (List.mem_append_right _ (List.mem_append_right _ (List.mem_append_right _ (List.mem_append_left _ h)))))))))))
theorem iW11 : ∀ w ∈ W_11, w ∈ WS := fun w h => (List.mem_append_right _ (List.mem_append_right _ (List.mem_append_right _ (List.mem_append_right _ (List.mem_append_right _ (List.mem_append_right _ (List.mem_append_right _ (List.mem_append_right _ (List.mem_append_right _ (List.mem_append_right _ (List.mem_append_right _ (List.mem_append_left _ h))))))))))))
theorem iW12 : ∀ w ∈ W_12, w ∈ WS := fun w h => (List.mem_append_right _ (List.mem_append_right _ (List.mem_append_right _ (List.mem_append_right _ (List.mem_append_right _ (List.mem_append_right _ (List.mem_append_right _ (List.mem_append_right _ (List.mem_append_right _ (List.mem_append_right _ (List.mem_append_right _ (List.mem_append_right _ (List.mem_append_left _ h)))))))))))))
theorem iW13 : ∀ w ∈ W_13, w ∈ WS := fun w h => (List.mem_append_right _ (List.mem_append_right _ (List.mem_append_right _ (List.mem_append_right _ (List.mem_append_right _ (List.mem_append_right _ (List.mem_append_right _ (List.mem_append_right _ (List.mem_append_right _ (List.mem_append_right _ (List.mem_append_right _ (List.mem_append_right _ (List.mem_append_right _ (List.mem_append_left _ h))))))))))))))
theorem iW14 : ∀ w ∈ W_14, w ∈ WS := fun w h => (List.mem_append_right _ (List.mem_append_right _ (List.mem_append_right _ (List.mem_append_right _ (List.mem_append_right _ (List.mem_append_right _ (List.mem_append_right _ (List.mem_append_right _ (List.mem_append_right _ (List.mem_append_right _ (List.mem_append_right _ (List.mem_append_right _ (List.mem_append_right _ (List.mem_append_right _ (List.mem_append_left _ h)))))))))))))))
theorem iW15 : ∀ w ∈ W_15, w ∈ WS := fun w h => (List.mem_append_right _ (List.mem_append_right _ (List.mem_append_right _ (List.mem_append_right _ (List.mem_append_right _ (List.mem_append_right _ (List.mem_append_right _ (List.mem_append_right _ (List.mem_append_right _ (List.mem_append_right _ (List.mem_append_right _ (List.mem_append_right _ (List.mem_append_right _ (List.mem_append_right _ (List.mem_append_right _ (List.mem_append_left _ h))))))))))))))))
theorem iW16 : ∀ w ∈ W_16, w ∈ WS := fun w h => (List.mem_append_right _ (List.mem_append_right _ (List.mem_append_right _ (List.mem_append_right _ (List.mem_append_right _ (List.mem_append_right _ (List.mem_append_right _ (List.mem_append_right _ (List.mem_append_right _ (List.mem_append_right _ (List.mem_append_right _ (List.mem_append_right _ (List.mem_append_right _ (List.mem_append_right _ (List.mem_append_right _ (List.mem_append_right _ (List.mem_append_left _ h)))))))))))))))))
theorem iW17 : ∀ w ∈ W_17, w ∈ WS := fun w h => (List.mem_append_right _ (List.mem_append_right _ (List.mem_append_right _ (List.mem_append_right _ (List.mem_append_right _ (List.mem_append_right _ (List.mem_append_right _ (List.mem_append_right _ (List.mem_append_right _ (List.mem_append_right _ (List.mem_append_right _ (List.mem_append_right _ (List.mem_append_right _ (List.mem_append_right _ (List.mem_append_right _ (List.mem_append_right _ (List.mem_append_right _ (List.mem_append_left _ h))))))))))))))))))
theorem iW18 : ∀ w ∈ W_18, w ∈ WS := fun w h => (List.mem_append_right _ (List.mem_append_right _ (List.mem_append_right _ (List.mem_append_right _ (List.mem_append_right _ (List.mem_append_right _ (List.mem_append_right _ (List.mem_append_right _ (List.mem_append_right _ (List.mem_append_right _ (List.mem_append_right _ (List.mem_append_right _ (List.mem_append_right _ (List.mem_append_right _ (List.mem_append_right _ (List.mem_append_right _ (List.mem_append_right _ (List.mem_append_right _ (List.mem_append_left _ h)))))))))))))))))))
theorem iW19 : ∀ w ∈ W_19, w ∈ WS := fun w h => (List.mem_append_right _ (List.mem_append_right _ (List.mem_append_right _ (List.mem_append_right _ (List.mem_append_right _ (List.mem_append_right _ (List.mem_append_right _ (List.mem_append_right _ (List.mem_append_right _ (List.mem_append_right _ (List.mem_append_right _ (List.mem_append_right _ (List.mem_append_right _ (List.mem_append_right _ (List.mem_append_right _ (List.mem_append_right _ (List.mem_append_right _ (List.mem_append_right _ (List.mem_append_right _ (List.mem_append_left _ h))))))))))))))))))))
theorem iW20 : ∀ w ∈ W_20, w ∈ WS := fun w h => (List.mem_append_right _ (List.mem_append_right _ (List.mem_append_right _ (List.mem_append_right _ (List.mem_append_right _ (List.mem_append_right _ (List.mem_append_right _ (List.mem_append_right _ (List.mem_append_right _ (List.mem_append_right _ (List.mem_append_right _ (List.mem_append_right _ (List.mem_append_right _ (List.mem_append_right _ (List.mem_append_right _ (List.mem_append_right _ (List.mem_append_right _ (List.mem_append_right _ (List.mem_append_right _ (List.mem_append_right _ (List.mem_append_left _ h)))))))))))))))))))))
theorem iW21 : ∀ w ∈ W_21, w ∈ WS := fun w h => (List.mem_append_right _ (List.mem_append_right _ (List.mem_append_right _ (List.mem_append_right _ (List.mem_append_right _ (List.mem_append_right _ (List.mem_append_right _ (List.mem_append_right _ (List.mem_append_right _ (List.mem_append_right _ (List.mem_append_right _ (List.mem_append_right _ (List.mem_append_right _ (List.mem_append_right _ (List.mem_append_right _ (List.mem_append_right _ (List.mem_append_right _ (List.mem_append_right _ (List.mem_append_right _ (List.mem_append_right _ (List.mem_append_right _ (List.mem_append_left _ h))))))))))))))))))))))
theorem iW22 : ∀ w ∈ W_22, w ∈ WS := fun w h => (List.mem_append_right _ (List.mem_append_right _ (List.mem_append_right _ (List.mem_append_right _ (List.mem_append_right _ (List.mem_append_right _ (List.mem_append_right _ (List.mem_append_right _ (List.mem_append_right _ (List.mem_append_right _ (List.mem_append_right _ (List.mem_append_right _ (List.mem_append_right _ (List.mem_append_right _ (List.mem_append_right _ (List.mem_append_right _ (List.mem_append_right _ (List.mem_append_right _ (List.mem_append_right _ (List.mem_append_right _ (List.mem_append_right _ (List.mem_append_right _ (List.mem_append_left _ h)))))))))))))))))))))))
theorem iW23 : ∀ w ∈ W_23, w ∈ WS := fun w h => (List.mem_append_right _ (List.mem_append_right _ (List.mem_append_right _ (List.mem_append_right _ (List.mem_append_right _ (List.mem_append_right _ (List.mem_append_right _ (List.mem_append_right _ (List.mem_append_right _ (List.mem_append_right _ (List.mem_append_right _ (List.mem_append_right _ (List.mem_append_right _ (List.mem_append_right _ (List.mem_append_right _ (List.mem_append_right _ (List.mem_append_right _ (List.mem_append_right _ (List.mem_append_right _ (List.mem_append_right _ (List.mem_append_right _ (List.mem_append_right _ (List.mem_append_right _ (List.mem_append_left _ h))))))))))))))))))))))))
theorem iW24 : ∀ w ∈ W_24, w ∈ WS := fun w h => (List.mem_append_right _ (List.mem_append_right _ (List.mem_append_right _ (List.mem_append_right _ (List.mem_append_right _ (List.mem_append_right _ (List.mem_append_right _ (List.mem_append_right _ (List.mem_append_right _ (List.mem_append_right _ (List.mem_append_right _ (List.mem_append_right _ (List.mem_append_right _ (List.mem_append_right _ (List.mem_append_right _ (List.mem_append_right _ (List.mem_append_right _ (List.mem_append_right _ (List.mem_append_right _ (List.mem_append_right _ (List.mem_append_right _ (List.mem_append_right _ (List.mem_append_right _ (List.mem_append_right _ (List.mem_append_left _ h)))))))))))))))))))))))))
theorem iW25 : ∀ w ∈ W_25, w ∈ WS := fun w h => (List.mem_append_right _ (List.mem_append_right _ (List.mem_append_right _ (List.mem_append_right _ (List.mem_append_right _ (List.mem_append_right _ (List.mem_append_right _ (List.mem_append_right _ (List.mem_append_right _ (List.mem_append_right _ (List.mem_append_right _ (List.mem_append_right _ (List.mem_append_right _ (List.mem_append_right _ (List.mem_append_right _ (List.mem_append_right _ (List.mem_append_right _ (List.mem_append_right _ (List.mem_append_right _ (List.mem_append_right _ (List.mem_append_right _ (List.mem_append_right _ (List.mem_append_right _ (List.mem_append_right _ (List.mem_append_right _ (List.mem_append_left _ h))))))))))))))))))))))))))
theorem iW26 : ∀ w ∈ W_26, w ∈ WS := fun w h => (List.mem_append_right _ (List.mem_append_right _ (List.mem_append_right _ (List.mem_append_right _ (List.mem_append_right _ (List.mem_append_right _ (List.mem_append_right _ (List.mem_append_right _ (List.mem_append_right _ (List.mem_append_right _ (List.mem_append_right _ (List.mem_append_right _ (List.mem_append_right _ (List.mem_append_right _ (List.mem_append_right _ (List.mem_append_right _ (List.mem_append_right _ (List.mem_append_right _ (List.mem_append_right _ (List.mem_append_right _ (List.mem_append_right _ (List.mem_append_right _ (List.mem_append_right _ (List.mem_append_right _ (List.mem_append_right _ (List.mem_append_right _ (List.mem_append_left _ h)))))))))))))))))))))))))))
theorem iW27 : ∀ w ∈ W_27, w ∈ WS := fun w h => (List.mem_append_right _ (List.mem_append_right _ (List.mem_append_right _ (List.mem_append_right _ (List.mem_append_right _ (List.mem_append_right _ (List.mem_append_right _ (List.mem_append_right _ (List.mem_append_right _ (List.mem_append_right _ (List.mem_append_right _ (List.mem_append_right _ (List.mem_append_right _ (List.mem_append_right _ (List.mem_append_right _ (List.mem_append_right _ (List.mem_append_right _ (List.mem_append_right _ (List.mem_append_right _ (List.mem_append_right _ (List.mem_append_right _ (List.mem_append_right _ (List.mem_append_right _ (List.mem_append_right _ (List.mem_append_right _ (List.mem_append_right _ (List.mem_append_right _ (List.mem_append_left _ h))))))))))))))))))))))))))))
theorem iW28 : ∀ w ∈ W_28, w ∈ WS := fun w h => (List.mem_append_right _ (List.mem_append_right _ (List.mem_append_right _ (List.mem_append_right _ (List.mem_append_right _ (List.mem_append_right _ (List.mem_append_right _ (List.mem_append_right _ (List.mem_append_right _ (List.mem_append_right _ (List.mem_append_right _ (List.mem_append_right _ (List.mem_append_right _ (List.mem_append_right _ (List.mem_append_right _ (List.mem_append_right _ (List.mem_append_right _ (List.mem_append_right _ (List.mem_append_right _ (List.mem_append_right _ (List.mem_append_right _ (List.mem_append_right _ (List.mem_append_right _ (List.mem_append_right _ (List.mem_append_right _ (List.mem_append_right _ (List.mem_append_right _ (List.mem_append_right _ (List.mem_append_left _ h)))))))))))))))))))))))))))))
theorem iW29 : ∀ w ∈ W_29, w ∈ WS := fun w h => (List.mem_append_right _ (List.mem_append_right _ (List.mem_append_right _ (List.mem_append_right _ (List.mem_append_right _ (List.mem_append_right _ (List.mem_append_right _ (List.mem_append_right _ (List.mem_append_right _ (List.mem_append_right _ (List.mem_append_right _ (List.mem_append_right _ (List.mem_append_right _ (List.mem_append_right _ (List.mem_append_right _ (List.mem_append_right _ (List.mem_append_right _ (List.mem_append_right _ (List.mem_append_right _ (List.mem_append_right _ (List.mem_append_right _ (List.mem_append_right _ (List.mem_append_right _ (List.mem_append_right _ (List.mem_append_right _ (List.mem_append_right _ (List.mem_append_right _ (List.mem_append_right _ (List.mem_append_right _ (List.mem_append_left _ h))))))))))))))))))))))))))))))
theorem iW30 : ∀ w ∈ W_30, w ∈ WS := fun w h => (List.mem_append_right _ (List.mem_append_right _ (List.mem_append_right _ (List.mem_append_right _ (List.mem_append_right _ (List.mem_append_right _ (List.mem_append_right _ (List.mem_append_right _ (List.mem_append_right _ (List.mem_append_right _ (List.mem_append_right _ (List.mem_append_right _ (List.mem_append_right _ (List.mem_append_right _ (List.mem_append_right _ (List.mem_append_right _ (List.mem_append_right _ (List.mem_append_right _ (List.mem_append_right _ (List.mem_append_right _ (List.mem_append_right _ (List.mem_append_right _ (List.mem_append_right _ (List.mem_append_right _ (List.mem_append_right _ (List.mem_append_right _ (List.mem_append_right _ (List.mem_append_right _ (List.mem_append_right _ (List.mem_append_right _ (List.mem_append_left _ h)))))))))))))))))))))))))))))))
theorem iW31 : ∀ w ∈ W_31, w ∈ WS := fun w h => (List.mem_append_right _ (List.mem_append_right _ (List.mem_append_right _ (List.mem_append_right _ (List.mem_append_right _ (List.mem_append_right _ (List.mem_append_right _ (List.mem_append_right _ (List.mem_append_right _ (List.mem_append_right _ (List.mem_append_right _ (List.mem_append_right _ (List.mem_append_right _ (List.mem_append_right _ (List.mem_append_right _ (List.mem_append_right _ (List.mem_append_right _ (List.mem_append_right _ (List.mem_append_right _ (List.mem_append_right _ (List.mem_append_right _ (List.mem_append_right _ (List.mem_append_right _ (List.mem_append_right _ (List.mem_append_right _ (List.mem_append_right _ (List.mem_append_right _ (List.mem_append_right _ (List.mem_append_right _ (List.mem_append_right _ (List.mem_append_right _ (List.mem_append_left _ h))))))))))))))))))))))))))))))))
theorem iW32 : ∀ w ∈ W_32, w ∈ WS := fun w h => (List.mem_append_right _ (List.mem_append_right _ (List.mem_append_right _ (List.mem_append_right _ (List.mem_append_right _ (List.mem_append_right _ (List.mem_append_right _ (List.mem_append_right _ (List.mem_append_right _ (List.mem_append_right _ (List.mem_append_right _ (List.mem_append_right _ (List.mem_append_right _ (List.mem_append_right _ (List.mem_append_right _ (List.mem_append_right _ (List.mem_append_right _ (List.mem_append_right _ (List.mem_append_right _ (List.mem_append_right _ (List.mem_append_right _ (List.mem_append_right _ (List.mem_append_right _ (List.mem_append_right _ (List.mem_append_right _ (List.mem_append_right _ (List.mem_append_right _ (List.mem_append_right _ (List.mem_append_right _ (List.mem_append_right _ (List.mem_append_right _ (List.mem_append_right _ (List.mem_append_left _ h)))))))))))))))))))))))))))))))))
theorem iW33 : ∀ w ∈ W_33, w ∈ WS := fun w h => (List.mem_append_right _ (List.mem_append_right _ (List.mem_append_right _ (List.mem_append_right _ (List.mem_append_right _ (List.mem_append_right _ (List.mem_append_right _ (List.mem_append_right _ (List.mem_append_right _ (List.mem_append_right _ (List.mem_append_right _ (List.mem_append_right _ (List.mem_append_right _ (List.mem_append_right _ (List.mem_append_right _ (List.mem_append_right _ (List.mem_append_right _ (List.mem_append_right _ (List.mem_append_right _ (List.mem_append_right _ (List.mem_append_right _ (List.mem_append_right _ (List.mem_append_right _ (List.mem_append_right _ (List.mem_append_right _ (List.mem_append_right _ (List.mem_append_right _ (List.mem_append_right _ (List.mem_append_right _ (List.mem_append_right _ (List.mem_append_right _ (List.mem_append_right _ (List.mem_append_right _ (List.mem_append_left _ h))))))))))))))))))))))))))))))))))
theorem iW34 : ∀ w ∈ W_34, w ∈ WS := fun w h => (List.mem_append_right _ (List.mem_append_right _ (List.mem_append_right _ (List.mem_append_right _ (List.mem_append_right _ (List.mem_append_right _ (List.mem_append_right _ (List.mem_append_right _ (List.mem_append_right _ (List.mem_append_right _ (List.mem_append_right _ (List.mem_append_right _ (List.mem_append_right _ (List.mem_append_right _ (List.mem_append_right _ (List.mem_append_right _ (List.mem_append_right _ (List.mem_append_right _ (List.mem_append_right _ (List.mem_append_right _ (List.mem_append_right _ (List.mem_append_right _ (List.mem_append_right _ (List.mem_append_right _ (List.mem_append_right _ (List.mem_append_right _ (List.mem_append_right _ (List.mem_append_right _ (List.mem_append_right _ (List.mem_append_right _ (List.mem_append_right _ (List.mem_append_right _ (List.mem_append_right _ (List.mem_append_right _ (List.mem_append_left _ h)))))))))))))))))))))))))))))))))))
theorem iW35 : ∀ w ∈ W_35, w ∈ WS := fun w h => (List.mem_append_right _ (List.mem_append_right _ (List.mem_append_right _ (List.mem_append_right _ (List.mem_append_right _ (List.mem_append_right _ (List.mem_append_right _ (List.mem_append_right _ (List.mem_append_right _ (List.mem_append_right _ (List.mem_append_right _ (List.mem_append_right _ (List.mem_append_right _ (List.mem_append_right _ (List.mem_append_right _ (List.mem_append_right _ (List.mem_append_right _ (List.mem_append_right _ (List.mem_append_right _ (List.mem_append_right _ (List.mem_append_right _ (List.mem_append_right _ (List.mem_append_right _ (List.mem_append_right _ (List.mem_append_right _ (List.mem_append_right _ (List.mem_append_right _ (List.mem_append_right _ (List.mem_append_right _ (List.mem_append_right _ (List.mem_append_right _ (List.mem_append_right _ (List.mem_append_right _ (List.mem_append_right _ (List.mem_append_right _ (List.mem_append_left _ h))))))))))))))))))))))))))))))))))))
theorem iW36 : ∀ w ∈ W_36, w ∈ WS := fun w h => (List.mem_append_right _ (List.mem_append_right _ (List.mem_append_right _ (List.mem_append_right _ (List.mem_append_right _ (List.mem_append_right _ (List.mem_append_right _ (List.mem_append_right _ (List.mem_append_right _ (List.mem_append_right _ (List.mem_append_right _ (List.mem_append_right _ (List.mem_append_right _ (List.mem_append_right _ (List.mem_append_right _ (List.mem_append_right _ (List.mem_append_right _ (List.mem_append_right _ (List.mem_append_right _ (List.mem_append_right _ (List.mem_append_right _ (List.mem_append_right _ (List.mem_append_right _ (List.mem_append_right _ (List.mem_append_right _ (List.mem_append_right _ (List.mem_append_right _ (List.mem_append_right _ (List.mem_append_right _ (List.mem_append_right _ (List.mem_append_right _ (List.mem_append_right _ (List.mem_append_right _ (List.mem_append_right _ (List.mem_append_right _ (List.mem_append_right _ (List.mem_append_left _ h)))))))))))))))))))))))))))))))))))))
theorem iW37 : ∀ w ∈ W_37, w ∈ WS := fun w h => (List.mem_append_right _ (List.mem_append_right _ (List.mem_append_right _ (List.mem_append_right _ (List.mem_append_right _ (List.mem_append_right _ (List.mem_append_right _ (List.mem_append_right _ (List.mem_append_right _ (List.mem_append_right _ (List.mem_append_right _ (List.mem_append_right _ (List.mem_append_right _ (List.mem_append_right _ (List.mem_append_right _ (List.mem_append_right _ (List.mem_append_right _ (List.mem_append_right _ (List.mem_append_right _ (List.mem_append_right _ (List.mem_append_right _ (List.mem_append_right _ (List.mem_append_right _ (List.mem_append_right _ (List.mem_append_right _ (List.mem_append_right _ (List.mem_append_right _ (List.mem_append_right _ (List.mem_append_right _ (List.mem_append_right _ (List.mem_append_right _ (List.mem_append_right _ (List.mem_append_right _ (List.mem_append_right _ (List.mem_append_right _ (List.mem_append_right _ (List.mem_append_right _ (List.mem_append_left _ h))))))))))))))))))))))))))))))))))))))
theorem iW38 : ∀ w ∈ W_38, w ∈ WS := fun w h => (List.mem_append_right _ (List.mem_append_right _ (List.mem_append_right _ (List.mem_append_right _ (List.mem_append_right _ (List.mem_append_right _ (List.mem_append_right _ (List.mem_append_right _ (List.mem_append_right _ (List.mem_append_right _ (List.mem_append_right _ (List.mem_append_right _ (List.mem_append_right _ (List.mem_append_right _ (List.mem_append_right _ (List.mem_append_right _ (List.mem_append_right _ (List.mem_append_right _ (List.mem_append_right _ (List.mem_append_right _ (List.mem_append_right _ (List.mem_append_right _ (List.mem_append_right _ (List.mem_append_right _ (List.mem_append_right _ (List.mem_append_right _ (List.mem_append_right _ (List.mem_append_right _ (List.mem_append_right _ (List.mem_append_right _ (List.mem_append_right _ (List.mem_append_right _ (List.mem_append_right _ (List.mem_append_right _ (List.mem_append_right _ (List.mem_append_right _ (List.mem_append_right _ (List.mem_append_right _ (List.mem_append_left _ h)))))))))))))))))))))))))))))))))))))))
theorem iW39 : ∀ w ∈ W_39, w ∈ WS := fun w h => (List.mem_append_right _ (List.mem_append_right _ (List.mem_append_right _ (List.mem_append_right _ (List.mem_append_right _ (List.mem_append_right _ (List.mem_append_right _ (List.mem_append_right _ (List.mem_append_right _ (List.mem_append_right _ (List.mem_append_right _ (List.mem_append_right _ (List.mem_append_right _ (List.mem_append_right _ (List.mem_append_right _ (List.mem_append_right _ (List.mem_append_right _ (List.mem_append_right _ (List.mem_append_right _ (List.mem_append_right _ (List.mem_append_right _ (List.mem_append_right _ (List.mem_append_right _ (List.mem_append_right _ (List.mem_append_right _ (List.mem_append_right _ (List.mem_append_right _ (List.mem_append_right _ (List.mem_append_right _ (List.mem_append_right _ (List.mem_append_right _ (List.mem_append_right _ (List.mem_append_right _ (List.mem_append_right _ (List.mem_append_right _ (List.mem_append_right _ (List.mem_append_right _ (List.mem_append_right _ (List.mem_append_right _ (List.mem_append_left _ h))))))))))))))))))))))))))))))))))))))))
theorem iCX0 : ∀ w ∈ wsX00, w ∈ WS := fun w h => (List.mem_append_right _ (List.mem_append_right _ (List.mem_append_right _ (List.mem_append_right _ (List.mem_append_right _ (List.mem_append_right _ (List.mem_append_right _ (List.mem_append_right _ (List.mem_append_right _ (List.mem_append_right _ (List.mem_append_right _ (List.mem_append_right _ (List.mem_append_right _ (List.mem_append_right _ (List.mem_append_right _ (List.mem_append_right _ (List.mem_append_right _ (List.mem_append_right _ (List.mem_append_right _ (List.mem_append_right _ (List.mem_append_right _ (List.mem_append_right _ (List.mem_append_right _ (List.mem_append_right _ (List.mem_append_right _ (List.mem_append_right _ (List.mem_append_right _ (List.mem_append_right _ (List.mem_append_right _ (List.mem_append_right _ (List.mem_append_right _ (List.mem_append_right _ (List.mem_append_right _ (List.mem_append_right _ (List.mem_append_right _ (List.mem_append_right _ (List.mem_append_right _ (List.mem_append_right _ (List.mem_append_right _ (List.mem_append_right _ (List.mem_append_left _ h)))))))))))))))))))))))))))))))))))))))))
theorem iCX3 : ∀ w ∈ wsX30, w ∈ WS := fun w h => (List.mem_append_right _ (List.mem_append_right _ (List.mem_append_right _ (List.mem_append_right _ (List.mem_append_right _ (List.mem_append_right _ (List.mem_append_right _ (List.mem_append_right _ (List.mem_append_right _ (List.mem_append_right _ (List.mem_append_right _ (List.mem_append_right _ (List.mem_append_right _ (List.mem_append_right _ (List.mem_append_right _ (List.mem_append_right _ (List.mem_append_right _ (List.mem_append_right _ (List.mem_append_right _ (List.mem_append_right _ (List.mem_append_right _ (List.mem_append_right _ (List.mem_append_right _ (List.mem_append_right _ (List.mem_append_right _ (List.mem_append_right _ (List.mem_append_right _ (List.mem_append_right _ (List.mem_append_right _ (List.mem_append_right _ (List.mem_append_right _ (List.mem_append_right _ (List.mem_append_right _ (List.mem_append_right _ (List.mem_append_right _ (List.mem_append_right _ (List.mem_append_right _ (List.mem_append_right _ (List.mem_append_right _ (List.mem_append_right _ (List.mem_append_right _ (List.mem_append_left _ h))))))))))))))))))))))))))))))))))))))))))
theorem iCX4 : ∀ w ∈ wsX40, w ∈ WS := fun w h => (List.mem_append_right _ (List.mem_append_right _ (List.mem_append_right _ (List.mem_append_right _ (List.mem_append_right _ (List.mem_append_right _ (List.mem_append_right _ (List.mem_append_right _ (List.mem_append_right _ (List.mem_append_right _ (List.mem_append_right _ (List.mem_append_right _ (List.mem_append_right _ (List.mem_append_right _ (List.mem_append_right _ (List.mem_append_right _ (List.mem_append_right _ (List.mem_append_right _ (List.mem_append_right _ (List.mem_append_right _ (List.mem_append_right _ (List.mem_append_right _ (List.mem_append_right _ (List.mem_append_right _ (List.mem_append_right _ (List.mem_append_right _ (List.mem_append_right _ (List.mem_append_right _ (List.mem_append_right _ (List.mem_append_right _ (List.mem_append_right _ (List.mem_append_right _ (List.mem_append_right _ (List.mem_append_right _ (List.mem_append_right _ (List.mem_append_right _ (List.mem_append_right _ (List.mem_append_right _ (List.mem_append_right _ (List.mem_append_right _ (List.mem_append_right _ (List.mem_append_right _ (List.mem_append_left _ h)))))))))))))))))))))))))))))))))))))))))))
theorem iCX5 : ∀ w ∈ wsX50, w ∈ WS := fun w h => (List.mem_append_right _ (List.mem_append_right _ (List.mem_append_right _ (List.mem_append_right _ (List.mem_append_right _ (List.mem_append_right _ (List.mem_append_right _ (List.mem_append_right _ (List.mem_append_right _ (List.mem_append_right _ (List.mem_append_right _ (List.mem_append_right _ (List.mem_append_right _ (List.mem_append_right _ (List.mem_append_right _ (List.mem_append_right _ (List.mem_append_right _ (List.mem_append_right _ (List.mem_append_right _ (List.mem_append_right _ (List.mem_append_right _ (List.mem_append_right _ (List.mem_append_right _ (List.mem_append_right _ (List.mem_append_right _ (List.mem_append_right _ (List.mem_append_right _ (List.mem_append_right _ (List.mem_append_right _ (List.mem_append_right _ (List.mem_append_right _ (List.mem_append_right _ (List.mem_append_right _ (List.mem_append_right _ (List.mem_append_right _ (List.mem_append_right _ (List.mem_append_right _ (List.mem_append_right _ (List.mem_append_right _ (List.mem_append_right _ (List.mem_append_right _ (List.mem_append_right _ (List.mem_append_right _ (List.mem_append_left _ h))))))))))))))))))))))))))))))))))))))))))))
theorem iCX9 : ∀ w ∈ wsX90, w ∈ WS := fun w h => (List.mem_append_right _ (List.mem_append_right _ (List.mem_append_right _ (List.mem_append_right _ (List.mem_append_right _ (List.mem_append_right _ (List.mem_append_right _ (List.mem_append_right _ (List.mem_append_right _ (List.mem_append_right _ (List.mem_append_right _ (List.mem_append_right _ (List.mem_append_right _ (List.mem_append_right _ (List.mem_append_right _ (List.mem_append_right _ (List.mem_append_right _ (List.mem_append_right _ (List.mem_append_right _ (List.mem_append_right _ (List.mem_append_right _ (List.mem_append_right _ (List.mem_append_right _ (List.mem_append_right _ (List.mem_append_right _ (List.mem_append_right _ (List.mem_append_right _ (List.mem_append_right _ (List.mem_append_right _ (List.mem_append_right _ (List.mem_append_right _ (List.mem_append_right _ (List.mem_append_right _ (List.mem_append_right _ (List.mem_append_right _ (List.mem_append_right _ (List.mem_append_right _ (List.mem_append_right _ (List.mem_append_right _ (List.mem_append_right _ (List.mem_append_right _ (List.mem_append_right _ (List.mem_append_right _ (List.mem_append_right _ (List.mem_append_left _ h)))))))))))))))))))))))))))))))))))))))))))))
theorem iCX10 : ∀ w ∈ wsX100, w ∈ WS := fun w h => (List.mem_append_right _ (List.mem_append_right _ (List.mem_append_right _ (List.mem_append_right _ (List.mem_append_right _ (List.mem_append_right _ (List.mem_append_right _ (List.mem_append_right _ (List.mem_append_right _ (List.mem_append_right _ (List.mem_append_right _ (List.mem_append_right _ (List.mem_append_right _ (List.mem_append_right _ (List.mem_append_right _ (List.mem_append_right _ (List.mem_append_right _ (List.mem_append_right _ (List.mem_append_right _ (List.mem_append_right _ (List.mem_append_right _ (List.mem_append_right _ (List.mem_append_right _ (List.mem_append_right _ (List.mem_append_right _ (List.mem_append_right _ (List.mem_append_right _ (List.mem_append_right _ (List.mem_append_right _ (List.mem_append_right _ (List.mem_append_right _ (List.mem_append_right _ (List.mem_append_right _ (List.mem_append_right _ (List.mem_append_right _ (List.mem_append_right _ (List.mem_append_right _ (List.mem_append_right _ (List.mem_append_right _ (List.mem_append_right _ (List.mem_append_right _ (List.mem_append_right _ (List.mem_append_right _ (List.mem_append_right _ (List.mem_append_right _ (List.mem_append_left _ h))))))))))))))))))))))))))))))))))))))))))))))
theorem iCX11 : ∀ w ∈ wsX110, w ∈ WS := fun w h => (List.mem_append_right _ (List.mem_append_right _ (List.mem_append_right _ (List.mem_append_right _ (List.mem_append_right _ (List.mem_append_right _ (List.mem_append_right _ (List.mem_append_right _ (List.mem_append_right _ (List.mem_append_right _ (List.mem_append_right _ (List.mem_append_right _ (List.mem_append_right _ (List.mem_append_right _ (List.mem_append_right _ (List.mem_append_right _ (List.mem_append_right _ (List.mem_append_right _ (List.mem_append_right _ (List.mem_append_right _ (List.mem_append_right _ (List.mem_append_right _ (List.mem_append_right _ (List.mem_append_right _ (List.mem_append_right _ (List.mem_append_right _ (List.mem_append_right _ (List.mem_append_right _ (List.mem_append_right _ (List.mem_append_right _ (List.mem_append_right _ (List.mem_append_right _ (List.mem_append_right _ (List.mem_append_right _ (List.mem_append_right _ (List.mem_append_right _ (List.mem_append_right _ (List.mem_append_right _ (List.mem_append_right _ (List.mem_append_right _ (List.mem_append_right _ (List.mem_append_right _ (List.mem_append_right _ (List.mem_append_right _ (List.mem_append_right _ (List.mem_append_right _ h))))))))))))))))))))))))))))))))))))))))))))))
theorem WS_good : WS.all goodWord = true := by decide +kernel
