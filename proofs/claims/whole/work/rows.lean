section
-- ===== PART A: goes FIRST, ahead of the names: the tables' words, and 'selects' of the private methods out of them =====
/-- a private method of a class that the tables say can be made, by its rows of tables_1 -/
def lw_okq (q : MethodName × Nat) : Prop := (q.1.cls ≠ "java/lang/invoke/MethodHandle" ∧ q.1.cls ≠ "java/lang/invoke/VarHandle") ∧ Cond.instantiable q.1.cls q.2 ∈ tables_1 ∧ Cond.privateMethod q.1 ∈ tables_1 ∧ Cond.instanceMethod q.1 ∈ tables_1
theorem lw_p0 : lw_okq (⟨"NineMilesOff", "refusalOfRow", "(I)I"⟩, 9) := ⟨⟨by decide +kernel, by decide +kernel⟩, List.mem_of_getElem? (i := 24) (by decide +kernel), List.mem_of_getElem? (i := 212) (by decide +kernel), List.mem_of_getElem? (i := 213) (by decide +kernel)⟩
theorem lw_p1 : lw_okq (⟨"NineMilesOff", "refusalUnless", "(II)I"⟩, 9) := ⟨⟨by decide +kernel, by decide +kernel⟩, List.mem_of_getElem? (i := 24) (by decide +kernel), List.mem_of_getElem? (i := 216) (by decide +kernel), List.mem_of_getElem? (i := 217) (by decide +kernel)⟩
theorem lw_p2 : lw_okq (⟨"NineMilesOff", "shelfAt", "(I)LNineMilesOff$Shelf;"⟩, 9) := ⟨⟨by decide +kernel, by decide +kernel⟩, List.mem_of_getElem? (i := 24) (by decide +kernel), List.mem_of_getElem? (i := 223) (by decide +kernel), List.mem_of_getElem? (i := 224) (by decide +kernel)⟩
theorem lw_p3 : lw_okq (⟨"NineMilesOff", "refusalOfGround", "(I)I"⟩, 9) := ⟨⟨by decide +kernel, by decide +kernel⟩, List.mem_of_getElem? (i := 24) (by decide +kernel), List.mem_of_getElem? (i := 361) (by decide +kernel), List.mem_of_getElem? (i := 362) (by decide +kernel)⟩
theorem lw_p4 : lw_okq (⟨"NineMilesOff", "refusalToSee", "(II)I"⟩, 9) := ⟨⟨by decide +kernel, by decide +kernel⟩, List.mem_of_getElem? (i := 24) (by decide +kernel), List.mem_of_getElem? (i := 492) (by decide +kernel), List.mem_of_getElem? (i := 493) (by decide +kernel)⟩
theorem lw_p5 : lw_okq (⟨"NineMilesOff", "refusalToCount", "(I)I"⟩, 9) := ⟨⟨by decide +kernel, by decide +kernel⟩, List.mem_of_getElem? (i := 24) (by decide +kernel), List.mem_of_getElem? (i := 574) (by decide +kernel), List.mem_of_getElem? (i := 575) (by decide +kernel)⟩
theorem lw_p6 : lw_okq (⟨"NineMilesOff", "refusalOfTrack", "(I)I"⟩, 9) := ⟨⟨by decide +kernel, by decide +kernel⟩, List.mem_of_getElem? (i := 24) (by decide +kernel), List.mem_of_getElem? (i := 621) (by decide +kernel), List.mem_of_getElem? (i := 622) (by decide +kernel)⟩
theorem lw_p7 : lw_okq (⟨"java/lang/Throwable", "fillInStackTrace", "(I)Ljava/lang/Throwable;"⟩, 6) := ⟨⟨by decide +kernel, by decide +kernel⟩, List.mem_of_getElem? (i := 894) (by decide +kernel), List.mem_of_getElem? (i := 892) (by decide +kernel), List.mem_of_getElem? (i := 893) (by decide +kernel)⟩
theorem lw_p8 : lw_okq (⟨"NineMilesOffModel", "wrongRow", "(I)I"⟩, 39) := ⟨⟨by decide +kernel, by decide +kernel⟩, List.mem_of_getElem? (i := 972) (by decide +kernel), List.mem_of_getElem? (i := 1104) (by decide +kernel), List.mem_of_getElem? (i := 1105) (by decide +kernel)⟩
theorem lw_p9 : lw_okq (⟨"NineMilesOffModel", "readStatement", "()V"⟩, 39) := ⟨⟨by decide +kernel, by decide +kernel⟩, List.mem_of_getElem? (i := 972) (by decide +kernel), List.mem_of_getElem? (i := 1112) (by decide +kernel), List.mem_of_getElem? (i := 1113) (by decide +kernel)⟩
theorem lw_p10 : lw_okq (⟨"NineMilesOffModel", "here", "()I"⟩, 39) := ⟨⟨by decide +kernel, by decide +kernel⟩, List.mem_of_getElem? (i := 972) (by decide +kernel), List.mem_of_getElem? (i := 1116) (by decide +kernel), List.mem_of_getElem? (i := 1117) (by decide +kernel)⟩
theorem lw_p11 : lw_okq (⟨"NineMilesOffModel", "readDigits", "(I)I"⟩, 39) := ⟨⟨by decide +kernel, by decide +kernel⟩, List.mem_of_getElem? (i := 972) (by decide +kernel), List.mem_of_getElem? (i := 1123) (by decide +kernel), List.mem_of_getElem? (i := 1124) (by decide +kernel)⟩
theorem lw_p12 : lw_okq (⟨"NineMilesOffModel", "carryAll", "([IZ)V"⟩, 39) := ⟨⟨by decide +kernel, by decide +kernel⟩, List.mem_of_getElem? (i := 972) (by decide +kernel), List.mem_of_getElem? (i := 1129) (by decide +kernel), List.mem_of_getElem? (i := 1130) (by decide +kernel)⟩
theorem lw_p13 : lw_okq (⟨"NineMilesOffModel", "carry", "(I)I"⟩, 39) := ⟨⟨by decide +kernel, by decide +kernel⟩, List.mem_of_getElem? (i := 972) (by decide +kernel), List.mem_of_getElem? (i := 1133) (by decide +kernel), List.mem_of_getElem? (i := 1134) (by decide +kernel)⟩
theorem lw_p14 : lw_okq (⟨"NineMilesOffModel", "comes", "(I)Z"⟩, 39) := ⟨⟨by decide +kernel, by decide +kernel⟩, List.mem_of_getElem? (i := 972) (by decide +kernel), List.mem_of_getElem? (i := 1137) (by decide +kernel), List.mem_of_getElem? (i := 1138) (by decide +kernel)⟩
theorem lw_p15 : lw_okq (⟨"NineMilesOffModel", "canGo", "(II)Z"⟩, 39) := ⟨⟨by decide +kernel, by decide +kernel⟩, List.mem_of_getElem? (i := 972) (by decide +kernel), List.mem_of_getElem? (i := 1141) (by decide +kernel), List.mem_of_getElem? (i := 1142) (by decide +kernel)⟩
def lw_privs_1 : List (MethodName × Nat) := [(⟨"NineMilesOff", "refusalOfRow", "(I)I"⟩, 9), (⟨"NineMilesOff", "refusalUnless", "(II)I"⟩, 9), (⟨"NineMilesOff", "shelfAt", "(I)LNineMilesOff$Shelf;"⟩, 9), (⟨"NineMilesOff", "refusalOfGround", "(I)I"⟩, 9), (⟨"NineMilesOff", "refusalToSee", "(II)I"⟩, 9), (⟨"NineMilesOff", "refusalToCount", "(I)I"⟩, 9), (⟨"NineMilesOff", "refusalOfTrack", "(I)I"⟩, 9), (⟨"java/lang/Throwable", "fillInStackTrace", "(I)Ljava/lang/Throwable;"⟩, 6), (⟨"NineMilesOffModel", "wrongRow", "(I)I"⟩, 39), (⟨"NineMilesOffModel", "readStatement", "()V"⟩, 39), (⟨"NineMilesOffModel", "here", "()I"⟩, 39), (⟨"NineMilesOffModel", "readDigits", "(I)I"⟩, 39), (⟨"NineMilesOffModel", "carryAll", "([IZ)V"⟩, 39), (⟨"NineMilesOffModel", "carry", "(I)I"⟩, 39), (⟨"NineMilesOffModel", "comes", "(I)Z"⟩, 39), (⟨"NineMilesOffModel", "canGo", "(II)Z"⟩, 39)]
theorem lw_r1 : ∀ q ∈ lw_privs_1, lw_okq q := List.forall_mem_cons.mpr ⟨lw_p0, List.forall_mem_cons.mpr ⟨lw_p1, List.forall_mem_cons.mpr ⟨lw_p2, List.forall_mem_cons.mpr ⟨lw_p3, List.forall_mem_cons.mpr ⟨lw_p4, List.forall_mem_cons.mpr ⟨lw_p5, List.forall_mem_cons.mpr ⟨lw_p6, List.forall_mem_cons.mpr ⟨lw_p7, List.forall_mem_cons.mpr ⟨lw_p8, List.forall_mem_cons.mpr ⟨lw_p9, List.forall_mem_cons.mpr ⟨lw_p10, List.forall_mem_cons.mpr ⟨lw_p11, List.forall_mem_cons.mpr ⟨lw_p12, List.forall_mem_cons.mpr ⟨lw_p13, List.forall_mem_cons.mpr ⟨lw_p14, List.forall_mem_cons.mpr ⟨lw_p15, fun _ h => absurd h List.not_mem_nil⟩⟩⟩⟩⟩⟩⟩⟩⟩⟩⟩⟩⟩⟩⟩⟩
theorem lw_p16 : lw_okq (⟨"NineMilesOffModel", "goneTo", "(II)I"⟩, 39) := ⟨⟨by decide +kernel, by decide +kernel⟩, List.mem_of_getElem? (i := 972) (by decide +kernel), List.mem_of_getElem? (i := 1145) (by decide +kernel), List.mem_of_getElem? (i := 1146) (by decide +kernel)⟩
theorem lw_p17 : lw_okq (⟨"NineMilesOffModel", "isOpen", "(I)Z"⟩, 39) := ⟨⟨by decide +kernel, by decide +kernel⟩, List.mem_of_getElem? (i := 972) (by decide +kernel), List.mem_of_getElem? (i := 1152) (by decide +kernel), List.mem_of_getElem? (i := 1153) (by decide +kernel)⟩
theorem lw_p18 : lw_okq (⟨"NineMilesOffModel", "goBoth", "(II)V"⟩, 39) := ⟨⟨by decide +kernel, by decide +kernel⟩, List.mem_of_getElem? (i := 972) (by decide +kernel), List.mem_of_getElem? (i := 1156) (by decide +kernel), List.mem_of_getElem? (i := 1157) (by decide +kernel)⟩
theorem lw_p19 : lw_okq (⟨"NineMilesOffModel", "farOf", "(II)I"⟩, 39) := ⟨⟨by decide +kernel, by decide +kernel⟩, List.mem_of_getElem? (i := 972) (by decide +kernel), List.mem_of_getElem? (i := 1160) (by decide +kernel), List.mem_of_getElem? (i := 1161) (by decide +kernel)⟩
theorem lw_p20 : lw_okq (⟨"NineMilesOffModel", "heightOf", "(I)I"⟩, 39) := ⟨⟨by decide +kernel, by decide +kernel⟩, List.mem_of_getElem? (i := 972) (by decide +kernel), List.mem_of_getElem? (i := 1167) (by decide +kernel), List.mem_of_getElem? (i := 1168) (by decide +kernel)⟩
theorem lw_p21 : lw_okq (⟨"NineMilesOffModel", "chanceOf", "(I)I"⟩, 39) := ⟨⟨by decide +kernel, by decide +kernel⟩, List.mem_of_getElem? (i := 972) (by decide +kernel), List.mem_of_getElem? (i := 1187) (by decide +kernel), List.mem_of_getElem? (i := 1188) (by decide +kernel)⟩
theorem lw_p22 : lw_okq (⟨"NineMilesOffModel", "wrongKept", "(I)I"⟩, 39) := ⟨⟨by decide +kernel, by decide +kernel⟩, List.mem_of_getElem? (i := 972) (by decide +kernel), List.mem_of_getElem? (i := 1195) (by decide +kernel), List.mem_of_getElem? (i := 1196) (by decide +kernel)⟩
theorem lw_p23 : lw_okq (⟨"NineMilesOffModel", "layStepsFrom", "(I)V"⟩, 39) := ⟨⟨by decide +kernel, by decide +kernel⟩, List.mem_of_getElem? (i := 972) (by decide +kernel), List.mem_of_getElem? (i := 1222) (by decide +kernel), List.mem_of_getElem? (i := 1223) (by decide +kernel)⟩
theorem lw_p24 : lw_okq (⟨"NineMilesOffModel", "openCells", "()J"⟩, 39) := ⟨⟨by decide +kernel, by decide +kernel⟩, List.mem_of_getElem? (i := 972) (by decide +kernel), List.mem_of_getElem? (i := 1226) (by decide +kernel), List.mem_of_getElem? (i := 1227) (by decide +kernel)⟩
theorem lw_p25 : lw_okq (⟨"NineMilesOffModel", "goOn", "(J)J"⟩, 39) := ⟨⟨by decide +kernel, by decide +kernel⟩, List.mem_of_getElem? (i := 972) (by decide +kernel), List.mem_of_getElem? (i := 1233) (by decide +kernel), List.mem_of_getElem? (i := 1234) (by decide +kernel)⟩
theorem lw_p26 : lw_okq (⟨"NineMilesOffModel", "pairMany", "()I"⟩, 39) := ⟨⟨by decide +kernel, by decide +kernel⟩, List.mem_of_getElem? (i := 972) (by decide +kernel), List.mem_of_getElem? (i := 1241) (by decide +kernel), List.mem_of_getElem? (i := 1242) (by decide +kernel)⟩
theorem lw_p27 : lw_okq (⟨"NineMilesOffModel", "isPair", "(II)Z"⟩, 39) := ⟨⟨by decide +kernel, by decide +kernel⟩, List.mem_of_getElem? (i := 972) (by decide +kernel), List.mem_of_getElem? (i := 1245) (by decide +kernel), List.mem_of_getElem? (i := 1246) (by decide +kernel)⟩
theorem lw_p28 : lw_okq (⟨"NineMilesOffModel", "isOff", "(II)Z"⟩, 39) := ⟨⟨by decide +kernel, by decide +kernel⟩, List.mem_of_getElem? (i := 972) (by decide +kernel), List.mem_of_getElem? (i := 1249) (by decide +kernel), List.mem_of_getElem? (i := 1250) (by decide +kernel)⟩
theorem lw_p29 : lw_okq (⟨"NineMilesOffModel", "partWith", "(I)J"⟩, 39) := ⟨⟨by decide +kernel, by decide +kernel⟩, List.mem_of_getElem? (i := 972) (by decide +kernel), List.mem_of_getElem? (i := 1257) (by decide +kernel), List.mem_of_getElem? (i := 1258) (by decide +kernel)⟩
theorem lw_p30 : lw_okq (⟨"NineMilesOffModel", "wrongTwo", "(II)I"⟩, 39) := ⟨⟨by decide +kernel, by decide +kernel⟩, List.mem_of_getElem? (i := 972) (by decide +kernel), List.mem_of_getElem? (i := 1276) (by decide +kernel), List.mem_of_getElem? (i := 1277) (by decide +kernel)⟩
theorem lw_p31 : lw_okq (⟨"NineMilesOffModel", "areBoth", "()Z"⟩, 39) := ⟨⟨by decide +kernel, by decide +kernel⟩, List.mem_of_getElem? (i := 972) (by decide +kernel), List.mem_of_getElem? (i := 1280) (by decide +kernel), List.mem_of_getElem? (i := 1281) (by decide +kernel)⟩
def lw_privs_2 : List (MethodName × Nat) := [(⟨"NineMilesOffModel", "goneTo", "(II)I"⟩, 39), (⟨"NineMilesOffModel", "isOpen", "(I)Z"⟩, 39), (⟨"NineMilesOffModel", "goBoth", "(II)V"⟩, 39), (⟨"NineMilesOffModel", "farOf", "(II)I"⟩, 39), (⟨"NineMilesOffModel", "heightOf", "(I)I"⟩, 39), (⟨"NineMilesOffModel", "chanceOf", "(I)I"⟩, 39), (⟨"NineMilesOffModel", "wrongKept", "(I)I"⟩, 39), (⟨"NineMilesOffModel", "layStepsFrom", "(I)V"⟩, 39), (⟨"NineMilesOffModel", "openCells", "()J"⟩, 39), (⟨"NineMilesOffModel", "goOn", "(J)J"⟩, 39), (⟨"NineMilesOffModel", "pairMany", "()I"⟩, 39), (⟨"NineMilesOffModel", "isPair", "(II)Z"⟩, 39), (⟨"NineMilesOffModel", "isOff", "(II)Z"⟩, 39), (⟨"NineMilesOffModel", "partWith", "(I)J"⟩, 39), (⟨"NineMilesOffModel", "wrongTwo", "(II)I"⟩, 39), (⟨"NineMilesOffModel", "areBoth", "()Z"⟩, 39)]
theorem lw_r2 : ∀ q ∈ lw_privs_2, lw_okq q := List.forall_mem_cons.mpr ⟨lw_p16, List.forall_mem_cons.mpr ⟨lw_p17, List.forall_mem_cons.mpr ⟨lw_p18, List.forall_mem_cons.mpr ⟨lw_p19, List.forall_mem_cons.mpr ⟨lw_p20, List.forall_mem_cons.mpr ⟨lw_p21, List.forall_mem_cons.mpr ⟨lw_p22, List.forall_mem_cons.mpr ⟨lw_p23, List.forall_mem_cons.mpr ⟨lw_p24, List.forall_mem_cons.mpr ⟨lw_p25, List.forall_mem_cons.mpr ⟨lw_p26, List.forall_mem_cons.mpr ⟨lw_p27, List.forall_mem_cons.mpr ⟨lw_p28, List.forall_mem_cons.mpr ⟨lw_p29, List.forall_mem_cons.mpr ⟨lw_p30, List.forall_mem_cons.mpr ⟨lw_p31, fun _ h => absurd h List.not_mem_nil⟩⟩⟩⟩⟩⟩⟩⟩⟩⟩⟩⟩⟩⟩⟩⟩
theorem lw_p32 : lw_okq (⟨"NineMilesOffModel", "seeDays", "(II)I"⟩, 39) := ⟨⟨by decide +kernel, by decide +kernel⟩, List.mem_of_getElem? (i := 972) (by decide +kernel), List.mem_of_getElem? (i := 1284) (by decide +kernel), List.mem_of_getElem? (i := 1285) (by decide +kernel)⟩
theorem lw_p33 : lw_okq (⟨"NineMilesOffModel", "layDaysFrom", "(II)V"⟩, 39) := ⟨⟨by decide +kernel, by decide +kernel⟩, List.mem_of_getElem? (i := 972) (by decide +kernel), List.mem_of_getElem? (i := 1288) (by decide +kernel), List.mem_of_getElem? (i := 1289) (by decide +kernel)⟩
theorem lw_p34 : lw_okq (⟨"NineMilesOffModel", "wrongWays", "(I)I"⟩, 39) := ⟨⟨by decide +kernel, by decide +kernel⟩, List.mem_of_getElem? (i := 972) (by decide +kernel), List.mem_of_getElem? (i := 1313) (by decide +kernel), List.mem_of_getElem? (i := 1314) (by decide +kernel)⟩
theorem lw_p35 : lw_okq (⟨"NineMilesOffModel", "layWays", "(I)V"⟩, 39) := ⟨⟨by decide +kernel, by decide +kernel⟩, List.mem_of_getElem? (i := 972) (by decide +kernel), List.mem_of_getElem? (i := 1319) (by decide +kernel), List.mem_of_getElem? (i := 1320) (by decide +kernel)⟩
theorem lw_p36 : lw_okq (⟨"NineMilesOffModel", "wrongCells", "(I)I"⟩, 39) := ⟨⟨by decide +kernel, by decide +kernel⟩, List.mem_of_getElem? (i := 972) (by decide +kernel), List.mem_of_getElem? (i := 1336) (by decide +kernel), List.mem_of_getElem? (i := 1337) (by decide +kernel)⟩
theorem lw_p37 : lw_okq (⟨"NineMilesOffModel", "notOff", "(IIJ)J"⟩, 39) := ⟨⟨by decide +kernel, by decide +kernel⟩, List.mem_of_getElem? (i := 972) (by decide +kernel), List.mem_of_getElem? (i := 1340) (by decide +kernel), List.mem_of_getElem? (i := 1341) (by decide +kernel)⟩
theorem lw_p38 : lw_okq (⟨"NineMilesOffModel", "toTheLast", "(IIJ)J"⟩, 39) := ⟨⟨by decide +kernel, by decide +kernel⟩, List.mem_of_getElem? (i := 972) (by decide +kernel), List.mem_of_getElem? (i := 1344) (by decide +kernel), List.mem_of_getElem? (i := 1345) (by decide +kernel)⟩
theorem lw_p39 : lw_okq (⟨"NineMilesOffModel", "rests", "(II)Z"⟩, 39) := ⟨⟨by decide +kernel, by decide +kernel⟩, List.mem_of_getElem? (i := 972) (by decide +kernel), List.mem_of_getElem? (i := 1360) (by decide +kernel), List.mem_of_getElem? (i := 1361) (by decide +kernel)⟩
theorem lw_p40 : lw_okq (⟨"NineMilesOffModel", "farBy", "(II)I"⟩, 39) := ⟨⟨by decide +kernel, by decide +kernel⟩, List.mem_of_getElem? (i := 972) (by decide +kernel), List.mem_of_getElem? (i := 1364) (by decide +kernel), List.mem_of_getElem? (i := 1365) (by decide +kernel)⟩
theorem lw_p41 : lw_okq (⟨"NineMilesOffModel", "stayOrGo", "(J)J"⟩, 39) := ⟨⟨by decide +kernel, by decide +kernel⟩, List.mem_of_getElem? (i := 972) (by decide +kernel), List.mem_of_getElem? (i := 1396) (by decide +kernel), List.mem_of_getElem? (i := 1397) (by decide +kernel)⟩
theorem lw_p42 : lw_okq (⟨"NineMilesOffModel", "skipped", "(I)J"⟩, 39) := ⟨⟨by decide +kernel, by decide +kernel⟩, List.mem_of_getElem? (i := 972) (by decide +kernel), List.mem_of_getElem? (i := 1400) (by decide +kernel), List.mem_of_getElem? (i := 1401) (by decide +kernel)⟩
theorem lw_p43 : lw_okq (⟨"NineMilesOffModel", "drawBelow", "(I)I"⟩, 39) := ⟨⟨by decide +kernel, by decide +kernel⟩, List.mem_of_getElem? (i := 972) (by decide +kernel), List.mem_of_getElem? (i := 1411) (by decide +kernel), List.mem_of_getElem? (i := 1412) (by decide +kernel)⟩
def lw_privs_3 : List (MethodName × Nat) := [(⟨"NineMilesOffModel", "seeDays", "(II)I"⟩, 39), (⟨"NineMilesOffModel", "layDaysFrom", "(II)V"⟩, 39), (⟨"NineMilesOffModel", "wrongWays", "(I)I"⟩, 39), (⟨"NineMilesOffModel", "layWays", "(I)V"⟩, 39), (⟨"NineMilesOffModel", "wrongCells", "(I)I"⟩, 39), (⟨"NineMilesOffModel", "notOff", "(IIJ)J"⟩, 39), (⟨"NineMilesOffModel", "toTheLast", "(IIJ)J"⟩, 39), (⟨"NineMilesOffModel", "rests", "(II)Z"⟩, 39), (⟨"NineMilesOffModel", "farBy", "(II)I"⟩, 39), (⟨"NineMilesOffModel", "stayOrGo", "(J)J"⟩, 39), (⟨"NineMilesOffModel", "skipped", "(I)J"⟩, 39), (⟨"NineMilesOffModel", "drawBelow", "(I)I"⟩, 39)]
theorem lw_r3 : ∀ q ∈ lw_privs_3, lw_okq q := List.forall_mem_cons.mpr ⟨lw_p32, List.forall_mem_cons.mpr ⟨lw_p33, List.forall_mem_cons.mpr ⟨lw_p34, List.forall_mem_cons.mpr ⟨lw_p35, List.forall_mem_cons.mpr ⟨lw_p36, List.forall_mem_cons.mpr ⟨lw_p37, List.forall_mem_cons.mpr ⟨lw_p38, List.forall_mem_cons.mpr ⟨lw_p39, List.forall_mem_cons.mpr ⟨lw_p40, List.forall_mem_cons.mpr ⟨lw_p41, List.forall_mem_cons.mpr ⟨lw_p42, List.forall_mem_cons.mpr ⟨lw_p43, fun _ h => absurd h List.not_mem_nil⟩⟩⟩⟩⟩⟩⟩⟩⟩⟩⟩⟩
def lw_privs : List (MethodName × Nat) := lw_privs_1 ++ (lw_privs_2 ++ (lw_privs_3))
def lw_tbl : List Cond := k2_sels lw_privs ++ tables_1
theorem lw_privs_ok : ∀ q ∈ lw_privs, lw_okq q := by
  show ∀ q ∈ lw_privs_1 ++ (lw_privs_2 ++ (lw_privs_3)), lw_okq q
  exact List.forall_mem_append.mpr ⟨lw_r1, List.forall_mem_append.mpr ⟨lw_r2, lw_r3⟩⟩
-- ===== end of PART A; then your names; then what follows =====
/-! ===== BEGIN words of one list among another's, by their places ===== -/
theorem goodIn_r {big : List Cond} (ws : List Cond) (ps : List Nat) (hp : ws = ps.filterMap (fun i => big[i]?)) (h : ws.all goodWord = true) : GoodIn big ws := by
  intro w hw
  have h1 := List.all_eq_true.mp h w hw
  rw [hp] at hw
  obtain ⟨i, -, hi⟩ := List.mem_filterMap.mp hw
  have hm : w ∈ big := by first | exact List.mem_of_getElem? hi | exact List.getElem?_mem hi
  exact ⟨hm, good_of_word h1⟩
theorem goodIn_app {big a b : List Cond} (ha : GoodIn big a) (hb : GoodIn big b) : GoodIn big (a ++ b) := fun w h => (List.mem_append.mp h).elim (ha w) (hb w)
theorem goodIn_ca {big a b : List Cond} {c : Cond} (ha : GoodIn big (c :: a)) (hb : GoodIn big b) : GoodIn big (c :: (a ++ b)) := fun w h => (List.mem_cons.mp h).elim (fun e => ha w (List.mem_cons.mpr (Or.inl e))) (fun h => (List.mem_append.mp h).elim (fun h => ha w (List.mem_cons.mpr (Or.inr h))) (hb w))
theorem goodIn_sub {big ws : List Cond} (hm : ∀ w ∈ ws, w ∈ big) (h : ws.all goodWord = true) : GoodIn big ws := fun w hw => ⟨hm w hw, good_of_word (List.all_eq_true.mp h w hw)⟩
/-! ===== END ===== -/

/-! ===== BEGIN exceptions that leave a method, and their catching by the caller (launches without stack traces) ===== -/
section VXA
/-! The laws vx_back, vx_callV, vx_callS, vx_callSW, vx_throw0, vx_throwS follow proofs of the library, with one case more: JvmDerived/Free/Laws.lean (Back.of_free), Shelf42/LK1.lean (callV, callS), Shelf/KitTraced.lean (throwNew0V, throwNewS). -/
/-- where a method has thrown q: the class by its name, the cell, what was written, the world -/
def vx_T (XC : String → State → State → Prop) (st : State) (q : Addr) (t : State) (mc ms : Nat) (free : Addr → Prop) : Prop :=
  ∃ (E : String) (ce : Cell) (L : List Loc), XC E st t ∧ t.heap[q]? = some ce ∧ ce.vm = .none ∧ st.vm.findClass E = some ce.cls ∧ st.WarmedH t.vm ∧ st.sameButNew ({ t with vm := st.vm } : State) L mc ms ∧ ∀ z ∈ L, free z.base
def vx_Q (Qc : Array Value → State → Outcome → State → Prop) (XC : String → State → State → Prop) (mc ms : Nat) (free : Addr → Prop) : Array Value → State → Outcome → State → Prop := fun a st o t =>
  (Qc a st o t ∧ ∃ L, FrameEnd st o t L mc ms ∧ ∀ q ∈ L, free q.base) ∨ ∃ q, o = .threw q ∧ vx_T XC st q t mc ms free
/-- a callee that returns or throws -/
def vx_Met (l : Launch) (y : MethodName) (ws : List Cond) (rm : Room) (Pc : Array Value → State → Prop) (Qc : Array Value → State → Outcome → State → Prop) (XC : String → State → State → Prop) (mc ms : Nat) (free : Addr → Prop) : Prop :=
  MetFree l y (headSpec ws rm) Pc (fun _ _ _ _ _ => True) (vx_Q Qc XC mc ms free)
def vx_Post (XC : String → State → State → Prop) (mc ms : Nat) (free : Addr → Prop) : Pt → Array Value → Addr → Pt → Prop := fun A a q B =>
  ∃ (g : JFrame) (mk : MethodId) (t : State) (L : List Loc) (E : String) (ce : Cell), B.U.heap = t.heap ∧ B.U.vm = t.vm ∧ XC E (A.U.calling g mk a) t ∧ t.heap[q]? = some ce ∧ ce.vm = .none ∧ A.U.vm.findClass E = some ce.cls ∧ B.locs = A.locs ++ L ∧ (∀ z ∈ L, free z.base) ∧ B.cells = A.cells + mc ∧ B.slots = A.slots + ms
def vx_Back (l : Launch) (R : Room) (p : Program) (e : Env) (below : List Frame) (s : State) (sargs : Array Value) (y : MethodName) (len W9 : Nat)
    (Pre : Pt → Array Value → Prop) (Post : Pt → Array Value → Option Value → Pt → Prop) (PostX : Pt → Array Value → Addr → Pt → Prop) : Prop :=
  ∀ (m : MethodId) (meth : Method) (c : Code) (A : Pt) (g : JFrame) (ig : Instr) (mk : MethodId) (a : Array Value),
    Stand p l e R s m sargs below meth c A.U A.locs A.cells A.slots → g.method = m → g.locals.size = c.maxLocals → decode c.code g.pc = .ok (ig, len) →
    2 * g.monitorRoom + (g.stack.map fun v => v.category).sum ≤ W9 → A.U.methodNamed? y = some mk → Pre A a →
    (∃ (v : Option Value) (B : Pt), Stand p l e R s m sargs below meth c B.U B.locs B.cells B.slots ∧ Post A a v B ∧
      Steps p.tables e below (doInvoke e (A.U.setTop g) [] mk a).1 (B.U.setTop { g with pc := g.pc + len, stack := v.toList ++ g.stack })) ∨
    (∃ (q : Addr) (B : Pt), Stand p l e R s m sargs below meth c B.U B.locs B.cells B.slots ∧ PostX A a q B ∧
      Steps p.tables e below (doInvoke e (A.U.setTop g) [] mk a).1 ((B.U.setTop g).pushFrame (.throwing q)))
section Payer
variable {l : Launch} {R : Room} {p : Program} {e : Env} {below : List Frame} {s : State} {sargs : Array Value} {y : MethodName} {len W9 : Nat}
theorem vx_back {ws : List Cond} {rm : Room} {Pc : Array Value → State → Prop} {Qc : Array Value → State → Outcome → State → Prop} {XC : String → State → State → Prop} {mc ms : Nat} {free : Addr → Prop} {bytes : ByteArray} {maxL : Nat} {ret : Option FieldType}
    (hM : vx_Met l y ws rm Pc Qc XC mc ms free) (hblind : FrameBlind Pc) (hrc : rm.cells = mc) (hrs : rm.slots = ms)
    (hframes : rm.frames + 1 ≤ R.frames) (hlocals : W9 + (maxL + 11) + rm.locals ≤ R.locals)
    (hws : ∀ w ∈ ws, ∀ a' U, s.WarmedH U.vm → w.before a' U = true) (hcode : Cond.code y bytes maxL ret ∈ ws) (hinit : ∀ a' U, s.WarmedH U.vm → (Cond.initialized y.cls).before a' U = true) :
    vx_Back l R p e below s sargs y len W9 (PreOf R mc ms Pc) (PostOf Qc mc ms free) (vx_Post XC mc ms free) := by
  intro m meth c A g ig mk a X hg hsize hdg hW hn hp
  have h1 : (headSpec ws rm).pre.before a A.U = true := atoms_intro fun w hw => hws w hw _ _ X.warmed
  have h2 : (Cond.code y bytes maxL ret).before a A.U = true := hws _ hcode _ _ X.warmed
  have h3 : (Cond.initialized y.cls).before a A.U = true := hinit _ _ X.warmed
  have h4 : A.cells + (headSpec ws rm).room.cells ≤ R.cells := by rw [show (headSpec ws rm).room.cells = mc from hrc]; exact hp.1
  have h5 : A.slots + (headSpec ws rm).room.slots ≤ R.slots := by rw [show (headSpec ws rm).room.slots = ms from hrs]; exact hp.2.1
  have hPc : Pc a (A.U.calling g mk a) := hblind _ _ _ _ hp.2.2
  obtain ⟨U, Ls, c0, s0⟩ := A
  dsimp only [Pt.U, Pt.locs, Pt.cells, Pt.slots] at h1 h2 h3 h4 h5 X hn hPc ⊢
  obtain ⟨methY, cY, hmY, hcY, -, hlY, -, -, -, -⟩ := Cond.code_spec hn h2
  obtain ⟨kY, hkY, -⟩ := className_of_methodNamed hn
  have hinitY : kY.init = .initialized := Cond.initialized_spec (findClass_of_methodNamed hn) hkY h3
  have h : At U g.method c below := by rw [hg]; exact X.here
  have hlocals9 : W9 + (maxL + 11) + (headSpec ws rm).room.locals ≤ R.locals := hlocals
  have happ : (headSpec ws rm).appliesLoose y e.platform (U.calling g mk a) = true :=
    Spec.appliesLoose_calling (g := g) h hdg hn hkY hinitY
      (X.room_calling (g := g) (R' := (headSpec ws rm).room) hsize hmY hcY hframes (by rw [hlY]; omega) h4 h5) h1
  obtain ⟨mid, hmid⟩ := h.above
  have hfr : (U.setTop g).frames = (.java g :: mid) ++ below := by rw [State.frames_setTop' g h.top, hmid]; rfl
  obtain ⟨o, s₂, hsteps, -, hend, hq⟩ := Steps.callFree hM p X.admits X.cas X.clock (acts := []) hfr happ hPc trivial
  have hq' : vx_Q Qc XC mc ms free a (U.calling g mk a) o s₂ := hq
  rw [State.frames_setTop' g h.top] at hend
  obtain ⟨g₀, hg0⟩ := Option.isSome_iff_exists.mp h.top
  obtain ⟨r, hr⟩ := State.topJava?_eq_some.mp hg0
  have hr' : (({ U with heap := s₂.heap, slotsUsed := s₂.slotsUsed } : State).setVm s₂.vm).frames = .java g₀ :: r := hr
  rcases hq' with ⟨hqc, L, hfe, hL⟩ | ⟨q, rfl, E, ce, L, hx, hce, hcv, hcl, hW₂, hsm, hL⟩
  · obtain ⟨⟨v, rfl⟩, hW₂, e2, q2, q3, q4, q5, q6⟩ := id hfe
    have e3 : s₂ = ({ (U.calling g mk a).setFrames s₂.frames with heap := s₂.heap, slotsUsed := s₂.slotsUsed } : State).setVm s₂.vm := by
      have : s₂ = ({ s₂ with vm := (U.calling g mk a).vm } : State).setVm s₂.vm := rfl
      rw [e2] at this
      exact this
    obtain ⟨c₂, i₂, len₂, hc₂, hd₂, hf₂⟩ := hend
    have hW' : U.WarmedH s₂.vm := hW₂
    have hcc : c₂ = c := by
      have h1 : s₂.code? g.method = U.code? g.method := by
        rw [State.code?_eq, State.code?_eq, hW'.alike.method?]
      exact Option.some.inj (hc₂.symm.trans (h1.trans h.code))
    subst hcc
    have hlen : len₂ = len := by rw [hdg] at hd₂; cases hd₂; rfl
    subst hlen
    have hs₂ : s₂ = (({ U with heap := s₂.heap, slotsUsed := s₂.slotsUsed } : State).setVm s₂.vm).setTop { g with pc := g.pc + len₂, stack := v.toList ++ g.stack } := by
      refine e3.trans ?_
      rw [hf₂, State.calling_eq h.top, State.setFrames_setFrames, State.setTop_of_frames _ hr', hr]
      rfl
    have hsame : U.sameButNew ({ U with heap := s₂.heap, slotsUsed := s₂.slotsUsed } : State) L mc ms := by
      refine ⟨?_, q2, q3, q4, q5, q6⟩
      obtain ⟨t, ht, -⟩ := State.frames_cons hr
      show ({ U with heap := s₂.heap, slotsUsed := s₂.slotsUsed } : State) = { U.setFrames U.frames with heap := s₂.heap, slotsUsed := s₂.slotsUsed }
      rw [State.setFrames_self ht]
    subst hg
    refine Or.inl ⟨v, ⟨(({ U with heap := s₂.heap, slotsUsed := s₂.slotsUsed } : State).setVm s₂.vm), Ls ++ L, c0 + mc, s0 + ms⟩,
      ⟨X.admits, X.cas, X.clock, X.frames, X.room, X.hears, X.method, X.code, (X.here.setHeapUsed s₂.heap s₂.slotsUsed).setVm hW'.alike, X.tail, State.WarmedH.trans X.warmed hW', X.limits, X.bytes, X.same.trans (hsame.setVm s.vm)⟩,
      ⟨g, mk, s₂, L, rfl, rfl, hqc, rfl, hL, rfl, rfl⟩, ?_⟩
    show Steps p.tables e below _ ((({ U with heap := s₂.heap, slotsUsed := s₂.slotsUsed } : State).setVm s₂.vm).setTop { g with pc := g.pc + len₂, stack := v.toList ++ g.stack })
    rw [← hs₂]
    exact hsteps
  · obtain ⟨e2, q2, q3, q4, q5, q6⟩ := id hsm
    have e3 : s₂ = ({ (U.calling g mk a).setFrames s₂.frames with heap := s₂.heap, slotsUsed := s₂.slotsUsed } : State).setVm s₂.vm := by
      have : s₂ = ({ s₂ with vm := (U.calling g mk a).vm } : State).setVm s₂.vm := rfl
      rw [e2] at this
      exact this
    have hf₂ : s₂.frames = .throwing q :: .java g :: U.frames.tail := hend
    have hW' : U.WarmedH s₂.vm := hW₂
    have hs₂ : s₂ = ((({ U with heap := s₂.heap, slotsUsed := s₂.slotsUsed } : State).setVm s₂.vm).setTop g).pushFrame (.throwing q) := by
      refine e3.trans ?_
      rw [hf₂, State.calling_eq h.top, State.setFrames_setFrames, State.pushFrame, State.frames_setTop _ hr', State.setTop_of_frames _ hr', State.setFrames_setFrames, hr]
      rfl
    have hsame : U.sameButNew ({ U with heap := s₂.heap, slotsUsed := s₂.slotsUsed } : State) L mc ms := by
      refine ⟨?_, q2, q3, q4, q5, q6⟩
      obtain ⟨t, ht, -⟩ := State.frames_cons hr
      show ({ U with heap := s₂.heap, slotsUsed := s₂.slotsUsed } : State) = { U.setFrames U.frames with heap := s₂.heap, slotsUsed := s₂.slotsUsed }
      rw [State.setFrames_self ht]
    subst hg
    refine Or.inr ⟨q, ⟨(({ U with heap := s₂.heap, slotsUsed := s₂.slotsUsed } : State).setVm s₂.vm), Ls ++ L, c0 + mc, s0 + ms⟩,
      ⟨X.admits, X.cas, X.clock, X.frames, X.room, X.hears, X.method, X.code, (X.here.setHeapUsed s₂.heap s₂.slotsUsed).setVm hW'.alike, X.tail, State.WarmedH.trans X.warmed hW', X.limits, X.bytes, X.same.trans (hsame.setVm s.vm)⟩,
      ⟨g, mk, s₂, L, E, ce, rfl, rfl, hx, hce, hcv, hcl, rfl, hL, rfl, rfl⟩, ?_⟩
    show Steps p.tables e below _ (((({ U with heap := s₂.heap, slotsUsed := s₂.slotsUsed } : State).setVm s₂.vm).setTop g).pushFrame (.throwing q))
    rw [← hs₂]
    exact hsteps
end Payer
section Calls
variable {p : Program} {l : Launch} {e : Env} {R : Room} {s : State} {m : MethodId} {args : Array Value} {below : List Frame} {meth : Method} {c : Code} {T : State} {locs : List Loc} {cells slots : Nat}
theorem vx_callV (X : Stand p l e R s m args below meth c T locs cells slots) (hexec : p.tables.exec = Jvm.exec) {own C : String} {index : Nat} {y : MethodName} {bytes : ByteArray} {maxL : Nat} {ret : Option FieldType}
    (hown : s.vm.findClass own = some m.cls) (hlink : (Cond.methodLink own index y).before args s = true) (hinst : (Cond.instanceMethod y).before args s = true) (hsel : (Cond.selects C y y).before args s = true)
    (hcode : (Cond.code y bytes maxL ret).before args s = true) (hy : y.cls ≠ "java/lang/invoke/MethodHandle" ∧ y.cls ≠ "java/lang/invoke/VarHandle")
    {W9 : Nat} {Pre : Pt → Array Value → Prop} {Post : Pt → Array Value → Option Value → Pt → Prop} {PostX : Pt → Array Value → Addr → Pt → Prop} (hK : vx_Back l R p e below s args y 3 W9 Pre Post PostX)
    {b : Addr} {cellB : Cell} (hcell : T.heap[b]? = some cellB) (hobj : cellB.vm.isStatics = false) (hcls : s.vm.findClass C = some cellB.cls)
    {g : JFrame} (hg : g.method = m) (hsize : g.locals.size = c.maxLocals) {argsL rest : List Value} (hlen : ∀ sig, parseMethodDescriptor y.desc = some sig → argsL.length = sig.parameters.length)
    (hstack : g.stack = argsL.reverse ++ .ref b :: rest) (hW : 2 * g.monitorRoom + (rest.map fun v => v.category).sum ≤ W9) (hdg : decode c.code g.pc = .ok (.invokevirtual index, 3))
    (hpre : ∀ vm₁, s.WarmedH vm₁ → Pre ⟨T.setVm vm₁, locs, cells, slots⟩ (Value.ref b :: argsL).toArray) :
    (∃ (v : Option Value) (vm₁ : Vm) (B : Pt), s.WarmedH vm₁ ∧ Stand p l e R s m args below meth c B.U B.locs B.cells B.slots ∧ Post ⟨T.setVm vm₁, locs, cells, slots⟩ (Value.ref b :: argsL).toArray v B ∧
      ∀ target, Steps p.tables e below (B.U.setTop { g with pc := g.pc + 3, stack := v.toList ++ rest }) target → Steps p.tables e below (T.setTop g) target) ∨
    (∃ (q : Addr) (vm₁ : Vm) (B : Pt), s.WarmedH vm₁ ∧ Stand p l e R s m args below meth c B.U B.locs B.cells B.slots ∧ PostX ⟨T.setVm vm₁, locs, cells, slots⟩ (Value.ref b :: argsL).toArray q B ∧
      Steps p.tables e below (T.setTop g) ((B.U.setTop { g with stack := rest }).pushFrame (.throwing q))) := by
  obtain ⟨mk, methM, hnamed, hmethM, hstM, habM⟩ := Cond.instanceMethod_spec hinst
  obtain ⟨methM', cM, hmethM', -, -, -, -, -, -, hsigM⟩ := Cond.code_spec hnamed hcode
  cases hmethM.symm.trans hmethM'
  obtain ⟨c2, r2, m2, q1, q2, q3, q4, kP, hkP, hkPi⟩ := Cond.selects_spec hsel
  cases hcls.symm.trans q1
  cases (State.methodFound?_of_named hnamed hy).symm.trans q2
  cases hnamed.symm.trans q3
  have hselP : selectMethod e.platform s.vm cellB.cls mk = .method mk := by rw [Launch.admits_selectMethod X.admits]; exact q4
  obtain ⟨vm₁, X₁, hstep₁⟩ := X.invokevirtual hexec hown hlink hnamed hmethM hstM hkP hkPi hy (a := b) (cell := cellB) hcell
    (fun z h => by rw [h] at hobj; cases hobj) hselP hmethM habM hkP hkPi (g := g) hg (argsL := argsL) (rest := rest) (hlen _ hsigM) hstack hdg
  rcases hK m meth c ⟨T.setVm vm₁, locs, cells, slots⟩ { g with stack := rest } (.invokevirtual index) mk (Value.ref b :: argsL).toArray X₁ hg hsize hdg hW (X₁.named hnamed) (hpre vm₁ X₁.warmed) with ⟨v, B, X', hpost, hsteps⟩ | ⟨q, B, X', hpost, hsteps⟩
  · exact Or.inl ⟨v, vm₁, B, X₁.warmed, X', hpost, fun target h => hstep₁ _ fun acts => by rw [doInvoke_state]; exact hsteps.trans h⟩
  · exact Or.inr ⟨q, vm₁, B, X₁.warmed, X', hpost, hstep₁ _ fun acts => by rw [doInvoke_state]; exact hsteps⟩
theorem vx_callS (X : Stand p l e R s m args below meth c T locs cells slots) (hexec : p.tables.exec = Jvm.exec) {own : String} {index : Nat} {y : MethodName} {bytes : ByteArray} {maxL : Nat} {ret : Option FieldType}
    (hown : s.vm.findClass own = some m.cls) (hlink : (Cond.methodLink own index y).before args s = true) (hstat : (Cond.static y).before args s = true) (hinit : (Cond.initialized y.cls).before args s = true)
    (hcode : (Cond.code y bytes maxL ret).before args s = true) (hy : y.cls ≠ "java/lang/invoke/MethodHandle" ∧ y.cls ≠ "java/lang/invoke/VarHandle")
    {W9 : Nat} {Pre : Pt → Array Value → Prop} {Post : Pt → Array Value → Option Value → Pt → Prop} {PostX : Pt → Array Value → Addr → Pt → Prop} (hK : vx_Back l R p e below s args y 3 W9 Pre Post PostX)
    {g : JFrame} (hg : g.method = m) (hsize : g.locals.size = c.maxLocals) {argsL rest : List Value} (hlen : ∀ sig, parseMethodDescriptor y.desc = some sig → argsL.length = sig.parameters.length)
    (hstack : g.stack = argsL.reverse ++ rest) (hW : 2 * g.monitorRoom + (rest.map fun v => v.category).sum ≤ W9) (hdg : decode c.code g.pc = .ok (.invokestatic index, 3))
    (hpre : ∀ vm₁, s.WarmedH vm₁ → Pre ⟨T.setVm vm₁, locs, cells, slots⟩ argsL.toArray) :
    (∃ (v : Option Value) (vm₁ : Vm) (B : Pt), s.WarmedH vm₁ ∧ Stand p l e R s m args below meth c B.U B.locs B.cells B.slots ∧ Post ⟨T.setVm vm₁, locs, cells, slots⟩ argsL.toArray v B ∧
      ∀ target, Steps p.tables e below (B.U.setTop { g with pc := g.pc + 3, stack := v.toList ++ rest }) target → Steps p.tables e below (T.setTop g) target) ∨
    (∃ (q : Addr) (vm₁ : Vm) (B : Pt), s.WarmedH vm₁ ∧ Stand p l e R s m args below meth c B.U B.locs B.cells B.slots ∧ PostX ⟨T.setVm vm₁, locs, cells, slots⟩ argsL.toArray q B ∧
      Steps p.tables e below (T.setTop g) ((B.U.setTop { g with stack := rest }).pushFrame (.throwing q))) := by
  obtain ⟨mk, hnamed⟩ := Cond.code_named hcode
  obtain ⟨methM, cM, hmethM, -, -, -, -, -, -, hsigM⟩ := Cond.code_spec hnamed hcode
  have hstatic : methM.isStatic = true := Cond.static_spec hnamed hmethM hstat
  obtain ⟨kP, hkP, -⟩ := className_of_methodNamed hnamed
  have hinitP : kP.init = .initialized := Cond.initialized_spec (findClass_of_methodNamed hnamed) hkP hinit
  obtain ⟨vm₁, X₁, hstep₁⟩ := X.invokestatic hexec hown hlink hnamed hmethM hstatic hkP hinitP hy (g := g) hg (argsL := argsL) (rest := rest) (hlen _ hsigM) hstack hdg
  rcases hK m meth c ⟨T.setVm vm₁, locs, cells, slots⟩ { g with stack := rest } (.invokestatic index) mk argsL.toArray X₁ hg hsize hdg hW (X₁.named hnamed) (hpre vm₁ X₁.warmed) with ⟨v, B, X', hpost, hsteps⟩ | ⟨q, B, X', hpost, hsteps⟩
  · exact Or.inl ⟨v, vm₁, B, X₁.warmed, X', hpost, fun target h => hstep₁ _ fun acts => by rw [doInvoke_state]; exact hsteps.trans h⟩
  · exact Or.inr ⟨q, vm₁, B, X₁.warmed, X', hpost, hstep₁ _ fun acts => by rw [doInvoke_state]; exact hsteps⟩
end Calls
theorem vx_cls {s : State} {T : State} {vm₁ : Vm} {E : String} {k : ClassId} (hW : s.WarmedH vm₁) (h : (T.setVm vm₁).vm.findClass E = some k) : s.vm.findClass E = some k := by
  have h1 : vm₁.findClass E = some k := h
  rw [hW.alike.findClass] at h1
  exact h1
/-- the method's frame g, with q thrown over it -/
def vx_W (p : Program) (l : Launch) (e : Env) (R : Room) (s : State) (m : MethodId) (args : Array Value) (below : List Frame) (meth : Method) (c : Code) (H : Heap) (locs : List Loc) (cells slots : Nat) (Q : State → Prop) (g : JFrame) (q : Addr) : Prop :=
  ∀ T : State, T.heap = H → Stand p l e R s m args below meth c T locs cells slots → ∃ t, Steps p.tables e below ((T.setTop g).pushFrame (.throwing q)) t ∧ Q t
def vx_Run (p : Program) (l : Launch) (e : Env) (R : Room) (s : State) (m : MethodId) (args : Array Value) (below : List Frame) (meth : Method) (c : Code) (H : Heap) (locs : List Loc) (cells slots mc ms : Nat) (g : JFrame) (rest : List Value) (Qa : State → Outcome → State → Prop) (XC : String → State → State → Prop) (free : Addr → Prop) : Prop :=
  ∀ T : State, T.heap = H → Stand p l e R s m args below meth c T locs cells slots →
    (∃ (v : Option Value) (st₀ t T' : State) (L : List Loc), st₀.heap = H ∧ Stand p l e R s m args below meth c T' (locs ++ L) (cells + mc) (slots + ms) ∧ (∀ q ∈ L, free q.base) ∧ T'.heap = t.heap ∧ T'.vm = t.vm ∧ Qa st₀ (.returned v) t ∧
      Goes p e below T g T' { g with pc := g.pc + 3, stack := v.toList ++ rest }) ∨
    (∃ (q : Addr) (st₀ t T' : State) (L : List Loc) (E : String) (ce : Cell), st₀.heap = H ∧ Stand p l e R s m args below meth c T' (locs ++ L) (cells + mc) (slots + ms) ∧ (∀ z ∈ L, free z.base) ∧ T'.heap = t.heap ∧ T'.vm = t.vm ∧ XC E st₀ t ∧ t.heap[q]? = some ce ∧ ce.vm = .none ∧ s.vm.findClass E = some ce.cls ∧
      Steps p.tables e below (T.setTop g) ((T'.setTop { g with stack := rest }).pushFrame (.throwing q)))
def vx_X {S : Type} (px : S → Prop) (B : String → S → State → Prop) (A : Nat → Prop) : String → State → State → Prop := fun E st t => ∃ u : S, px u ∧ B E u t ∧ va_F A st t
section Runs
variable {p : Program} {l : Launch} {e : Env} {R : Room} {s : State} {m : MethodId} {args : Array Value} {below : List Frame} {meth : Method} {c : Code} {H : Heap} {locs : List Loc} {cells slots : Nat}
variable {y : MethodName} {bytes cc : ByteArray} {maxL nL mc ms n index : Nat} {ret : Option FieldType} {ws : List Cond} {rm : Room} {Pc : Array Value → State → Prop} {Qc : Array Value → State → Outcome → State → Prop} {XC : String → State → State → Prop} {free : Addr → Prop} {Ts : List Cond} {own C : String} {b : Addr} {As rest : List Value} {g : JFrame}
theorem vx_callBack (cb : CallB R s args own index y bytes maxL ret ws rm mc ms n) (hM : vx_Met l y ws rm Pc Qc XC mc ms free) (hbl : FrameBlind Pc) : vx_Back l R p e below s args y 3 8 (PreOf R mc ms Pc) (PostOf Qc mc ms free) (vx_Post XC mc ms free) := by
  obtain ⟨hrc, hrs, hfr, hlo, hws, hcw, -, hini, -⟩ := cb
  exact vx_back (bytes := bytes) (maxL := maxL) (ret := ret) hM hbl hrc hrs hfr hlo hws hcw (fun a' U hW => word_at hW (Or.inl (by first | rfl | simp [Cond.onTables, Cond.keeps, Cond.steady])) hini)
theorem vx_runV (S : CallFix p m c cc nL s args Ts own) (hM : vx_Met l y ws rm Pc Qc XC mc ms free) (cw : CallW R s args own C index y bytes maxL ret ws rm mc ms n) (hp : PreV s H C b Pc As)
    (hg : g.method = m) (hn : As.length = n) (hsize : g.locals.size = nL) (hstack : g.stack = As.reverse ++ .ref b :: rest) (hW : 2 * g.monitorRoom + (rest.map fun v => v.category).sum ≤ 8) (hdg : decode cc g.pc = .ok (.invokevirtual index, 3)) (hf : cells + mc ≤ R.cells ∧ slots + ms ≤ R.slots) :
    vx_Run p l e R s m args below meth c H locs cells slots mc ms g rest (Qc (Value.ref b :: As).toArray) XC free := by
  have hK : vx_Back l R p e below s args y 3 8 (PreOf R mc ms Pc) (PostOf Qc mc ms free) (vx_Post XC mc ms free) := vx_callBack cw.1 hM hp.1
  obtain ⟨⟨-, -, -, -, -, -, hcode, -, hy, hlen, hl⟩, hin, hse⟩ := cw
  obtain ⟨hx, hb, hml, ho, -⟩ := S
  obtain ⟨-, ⟨cellB, hcB, hoB, hclB⟩, hPc⟩ := hp
  intro T hT X
  rcases vx_callV X hx (C := C) (bytes := bytes) (maxL := maxL) (ret := ret) ho hl hin hse hcode hy hK (by rw [hT]; exact hcB) hoB hclB hg (hsize.trans hml.symm) (argsL := As) (rest := rest) (fun sig h => hn.trans (hlen sig h)) hstack hW (by rw [hb]; exact hdg)
    (fun vm₁ hW₁ => ⟨hf.1, hf.2, hPc (T.setVm vm₁) hT hW₁⟩) with ⟨v, vm₁, ⟨U', l2, c2, s2⟩, hW₁, X', ⟨g', mk, t, L, e1, e2, hq, h1, hL, h2, h3⟩, st⟩ | ⟨q, vm₁, ⟨U', l2, c2, s2⟩, hW₁, X', ⟨g', mk, t, L, E, ce, e1, e2, hq, hce, hcv, hcl, h1, hL, h2, h3⟩, st⟩
  · dsimp only [Pt.U, Pt.locs, Pt.cells, Pt.slots] at X' e1 e2 h1 h2 h3 st
    subst h1; subst h2; subst h3
    exact Or.inl ⟨v, (T.setVm vm₁).calling g' mk (Value.ref b :: As).toArray, t, U', L, hT, X', hL, e1, e2, hq, st⟩
  · dsimp only [Pt.U, Pt.locs, Pt.cells, Pt.slots] at X' e1 e2 h1 h2 h3 st hcl
    subst h1; subst h2; subst h3
    exact Or.inr ⟨q, (T.setVm vm₁).calling g' mk (Value.ref b :: As).toArray, t, U', L, E, ce, hT, X', hL, e1, e2, hq, hce, hcv, vx_cls hW₁ hcl, st⟩
theorem vx_runS (S : CallFix p m c cc nL s args Ts own) (hM : vx_Met l y ws rm Pc Qc XC mc ms free) (cw : CallB R s args own index y bytes maxL ret ws rm mc ms n ∧ (Cond.static y).before args s = true) (hp : PreS s H Pc As)
    (hg : g.method = m) (hn : As.length = n) (hsize : g.locals.size = nL) (hstack : g.stack = As.reverse ++ rest) (hW : 2 * g.monitorRoom + (rest.map fun v => v.category).sum ≤ 8) (hdg : decode cc g.pc = .ok (.invokestatic index, 3)) (hf : cells + mc ≤ R.cells ∧ slots + ms ≤ R.slots) :
    vx_Run p l e R s m args below meth c H locs cells slots mc ms g rest (Qc As.toArray) XC free := by
  have hK : vx_Back l R p e below s args y 3 8 (PreOf R mc ms Pc) (PostOf Qc mc ms free) (vx_Post XC mc ms free) := vx_callBack cw.1 hM hp.1
  obtain ⟨⟨-, -, -, -, -, -, hcode, hini, hy, hlen, hl⟩, hstt⟩ := cw
  obtain ⟨hx, hb, hml, ho, -⟩ := S
  intro T hT X
  rcases vx_callS X hx (bytes := bytes) (maxL := maxL) (ret := ret) ho hl hstt hini hcode hy hK hg (hsize.trans hml.symm) (argsL := As) (rest := rest) (fun sig h => hn.trans (hlen sig h)) hstack hW (by rw [hb]; exact hdg)
    (fun vm₁ hW₁ => ⟨hf.1, hf.2, hp.2 (T.setVm vm₁) hT hW₁⟩) with ⟨v, vm₁, ⟨U', l2, c2, s2⟩, hW₁, X', ⟨g', mk, t, L, e1, e2, hq, h1, hL, h2, h3⟩, st⟩ | ⟨q, vm₁, ⟨U', l2, c2, s2⟩, hW₁, X', ⟨g', mk, t, L, E, ce, e1, e2, hq, hce, hcv, hcl, h1, hL, h2, h3⟩, st⟩
  · dsimp only [Pt.U, Pt.locs, Pt.cells, Pt.slots] at X' e1 e2 h1 h2 h3 st
    subst h1; subst h2; subst h3
    exact Or.inl ⟨v, (T.setVm vm₁).calling g' mk As.toArray, t, U', L, hT, X', hL, e1, e2, hq, st⟩
  · dsimp only [Pt.U, Pt.locs, Pt.cells, Pt.slots] at X' e1 e2 h1 h2 h3 st hcl
    subst h1; subst h2; subst h3
    exact Or.inr ⟨q, (T.setVm vm₁).calling g' mk As.toArray, t, U', L, E, ce, hT, X', hL, e1, e2, hq, hce, hcv, vx_cls hW₁ hcl, st⟩
end Runs
section Rows
variable {p : Program} {l : Launch} {e : Env} {R : Room} {s : State} {m : MethodId} {args : Array Value} {below : List Frame} {meth : Method} {c : Code} {H : Heap} {locs : List Loc} {cells slots : Nat} {Q : State → Prop}
variable {mc ms : Nat} {free : Addr → Prop} {A0 A1 : Nat → Prop} {H0 : Heap} {a : Array Value} {pc : Nat} {ls : Array Slot} {st0 rest : List Value}
theorem vx_keep {st₀ t T' : State} {L : List Loc} (h0 : st₀.heap = H) (e1 : T'.heap = t.heap) (hS : va_S A0 H0 H locs) (hA : ∀ q, q < H.size → A1 q → A0 q) (hf : ∀ q, free q → A0 q) (hL : ∀ q ∈ L, free q.base) (hF : va_F A1 st₀ t) :
    H.size ≤ T'.heap.size ∧ (∀ q : Nat, q < H.size → ¬ A1 q → T'.heap[q]? = H[q]?) ∧ va_S A0 H0 T'.heap (locs ++ L) := by
  obtain ⟨hz, hk⟩ := hF
  rw [h0] at hz hk
  exact ⟨by rw [e1]; exact hz, fun q h1 h2 => by rw [e1]; exact hk q h1 h2,
    ⟨Nat.le_trans hS.1 (by rw [e1]; exact hz), fun q h1 h2 => by rw [e1, hk q (Nat.lt_of_lt_of_le h1 hS.1) (fun z => h2 (hA q (Nat.lt_of_lt_of_le h1 hS.1) z))]; exact hS.2.1 q h1 h2, fun q hq => by
      rcases List.mem_append.mp hq with h | h
      · exact hS.2.2 q h
      · exact hf _ (hL q h)⟩⟩
theorem vx_calli {S SX : Type} {post : Int32 → S → Prop} {px : SX → Prop} {B : S → State → Prop} {BX : String → SX → State → Prop} {AX : Nat → Prop} (hr : vx_Run p l e R s m args below meth c H locs cells slots mc ms (F0 m pc ls st0) rest (va_Qi post B A1 a) (vx_X px BX AX) free) (hS : va_S A0 H0 H locs) (hA : ∀ q, q < H.size → A1 q → A0 q) (hf : ∀ q, free q → A0 q) (hAX : ∀ q, q < H.size → AX q → A0 q)
    (kx : ∀ (E : String) (ce : Cell) (q9 : Addr) (u : SX) (t : State) (H1 : Heap) (locs1 : List Loc), t.heap = H1 → s.vm.Alike t.vm → px u → BX E u t → H.size ≤ H1.size → (∀ q : Nat, q < H.size → ¬ AX q → H1[q]? = H[q]?) → va_S A0 H0 H1 locs1 → H1[q9]? = some ce → ce.vm = .none → s.vm.findClass E = some ce.cls → vx_W p l e R s m args below meth c H1 locs1 (cells + mc) (slots + ms) Q (F0 m pc ls rest) q9)
    (kk : ∀ (r : Int32) (u : S) (t : State) (H1 : Heap) (locs1 : List Loc), t.heap = H1 → s.vm.Alike t.vm → post r u → B u t → H.size ≤ H1.size → (∀ q : Nat, q < H.size → ¬ A1 q → H1[q]? = H[q]?) → va_S A0 H0 H1 locs1 → W p l e R s m args below meth c H1 locs1 (cells + mc) (slots + ms) Q (F0 m (pc + 3) ls (.int r :: rest))) : W p l e R s m args below meth c H locs cells slots Q (F0 m pc ls st0) := by
  intro T hT X
  rcases hr T hT X with ⟨v, st₀, t, T', L, h0, X', hL, e1, e2, ⟨⟨r, u, hv, hp, hb⟩, hF⟩, st⟩ | ⟨q, st₀, t, T', L, E, ce, h0, X', hL, e1, e2, ⟨u, hp, hb, hF⟩, hce, hcv, hcl, st⟩
  · cases hv
    obtain ⟨k1, k2, k3⟩ := vx_keep h0 e1 hS hA hf hL hF
    obtain ⟨t2, a1, b1⟩ := kk r u t T'.heap (locs ++ L) e1.symm (by rw [← e2]; exact X'.warmed.alike) hp hb k1 k2 k3 T' rfl X'
    exact ⟨t2, st t2 a1, b1⟩
  · obtain ⟨k1, k2, k3⟩ := vx_keep h0 e1 hS hAX hf hL hF
    obtain ⟨t2, a1, b1⟩ := kx E ce q u t T'.heap (locs ++ L) e1.symm (by rw [← e2]; exact X'.warmed.alike) hp hb k1 k2 k3 (by rw [e1]; exact hce) hcv hcl T' rfl X'
    exact ⟨t2, st.trans a1, b1⟩
theorem vx_calll {S SX : Type} {post : Int64 → S → Prop} {px : SX → Prop} {B : S → State → Prop} {BX : String → SX → State → Prop} {AX : Nat → Prop} (hr : vx_Run p l e R s m args below meth c H locs cells slots mc ms (F0 m pc ls st0) rest (va_Ql post B A1 a) (vx_X px BX AX) free) (hS : va_S A0 H0 H locs) (hA : ∀ q, q < H.size → A1 q → A0 q) (hf : ∀ q, free q → A0 q) (hAX : ∀ q, q < H.size → AX q → A0 q)
    (kx : ∀ (E : String) (ce : Cell) (q9 : Addr) (u : SX) (t : State) (H1 : Heap) (locs1 : List Loc), t.heap = H1 → s.vm.Alike t.vm → px u → BX E u t → H.size ≤ H1.size → (∀ q : Nat, q < H.size → ¬ AX q → H1[q]? = H[q]?) → va_S A0 H0 H1 locs1 → H1[q9]? = some ce → ce.vm = .none → s.vm.findClass E = some ce.cls → vx_W p l e R s m args below meth c H1 locs1 (cells + mc) (slots + ms) Q (F0 m pc ls rest) q9)
    (kk : ∀ (r : Int64) (u : S) (t : State) (H1 : Heap) (locs1 : List Loc), t.heap = H1 → s.vm.Alike t.vm → post r u → B u t → H.size ≤ H1.size → (∀ q : Nat, q < H.size → ¬ A1 q → H1[q]? = H[q]?) → va_S A0 H0 H1 locs1 → W p l e R s m args below meth c H1 locs1 (cells + mc) (slots + ms) Q (F0 m (pc + 3) ls (.long r :: rest))) : W p l e R s m args below meth c H locs cells slots Q (F0 m pc ls st0) := by
  intro T hT X
  rcases hr T hT X with ⟨v, st₀, t, T', L, h0, X', hL, e1, e2, ⟨⟨r, u, hv, hp, hb⟩, hF⟩, st⟩ | ⟨q, st₀, t, T', L, E, ce, h0, X', hL, e1, e2, ⟨u, hp, hb, hF⟩, hce, hcv, hcl, st⟩
  · cases hv
    obtain ⟨k1, k2, k3⟩ := vx_keep h0 e1 hS hA hf hL hF
    obtain ⟨t2, a1, b1⟩ := kk r u t T'.heap (locs ++ L) e1.symm (by rw [← e2]; exact X'.warmed.alike) hp hb k1 k2 k3 T' rfl X'
    exact ⟨t2, st t2 a1, b1⟩
  · obtain ⟨k1, k2, k3⟩ := vx_keep h0 e1 hS hAX hf hL hF
    obtain ⟨t2, a1, b1⟩ := kx E ce q u t T'.heap (locs ++ L) e1.symm (by rw [← e2]; exact X'.warmed.alike) hp hb k1 k2 k3 (by rw [e1]; exact hce) hcv hcl T' rfl X'
    exact ⟨t2, st.trans a1, b1⟩
theorem vx_callf {S SX : Type} {post : UInt32 → S → Prop} {px : SX → Prop} {B : S → State → Prop} {BX : String → SX → State → Prop} {AX : Nat → Prop} (hr : vx_Run p l e R s m args below meth c H locs cells slots mc ms (F0 m pc ls st0) rest (va_Qf post B A1 a) (vx_X px BX AX) free) (hS : va_S A0 H0 H locs) (hA : ∀ q, q < H.size → A1 q → A0 q) (hf : ∀ q, free q → A0 q) (hAX : ∀ q, q < H.size → AX q → A0 q)
    (kx : ∀ (E : String) (ce : Cell) (q9 : Addr) (u : SX) (t : State) (H1 : Heap) (locs1 : List Loc), t.heap = H1 → s.vm.Alike t.vm → px u → BX E u t → H.size ≤ H1.size → (∀ q : Nat, q < H.size → ¬ AX q → H1[q]? = H[q]?) → va_S A0 H0 H1 locs1 → H1[q9]? = some ce → ce.vm = .none → s.vm.findClass E = some ce.cls → vx_W p l e R s m args below meth c H1 locs1 (cells + mc) (slots + ms) Q (F0 m pc ls rest) q9)
    (kk : ∀ (r : UInt32) (u : S) (t : State) (H1 : Heap) (locs1 : List Loc), t.heap = H1 → s.vm.Alike t.vm → post r u → B u t → H.size ≤ H1.size → (∀ q : Nat, q < H.size → ¬ A1 q → H1[q]? = H[q]?) → va_S A0 H0 H1 locs1 → W p l e R s m args below meth c H1 locs1 (cells + mc) (slots + ms) Q (F0 m (pc + 3) ls (.float r :: rest))) : W p l e R s m args below meth c H locs cells slots Q (F0 m pc ls st0) := by
  intro T hT X
  rcases hr T hT X with ⟨v, st₀, t, T', L, h0, X', hL, e1, e2, ⟨⟨r, u, hv, hp, hb⟩, hF⟩, st⟩ | ⟨q, st₀, t, T', L, E, ce, h0, X', hL, e1, e2, ⟨u, hp, hb, hF⟩, hce, hcv, hcl, st⟩
  · cases hv
    obtain ⟨k1, k2, k3⟩ := vx_keep h0 e1 hS hA hf hL hF
    obtain ⟨t2, a1, b1⟩ := kk r u t T'.heap (locs ++ L) e1.symm (by rw [← e2]; exact X'.warmed.alike) hp hb k1 k2 k3 T' rfl X'
    exact ⟨t2, st t2 a1, b1⟩
  · obtain ⟨k1, k2, k3⟩ := vx_keep h0 e1 hS hAX hf hL hF
    obtain ⟨t2, a1, b1⟩ := kx E ce q u t T'.heap (locs ++ L) e1.symm (by rw [← e2]; exact X'.warmed.alike) hp hb k1 k2 k3 (by rw [e1]; exact hce) hcv hcl T' rfl X'
    exact ⟨t2, st.trans a1, b1⟩
theorem vx_calld {S SX : Type} {post : UInt64 → S → Prop} {px : SX → Prop} {B : S → State → Prop} {BX : String → SX → State → Prop} {AX : Nat → Prop} (hr : vx_Run p l e R s m args below meth c H locs cells slots mc ms (F0 m pc ls st0) rest (va_Qd post B A1 a) (vx_X px BX AX) free) (hS : va_S A0 H0 H locs) (hA : ∀ q, q < H.size → A1 q → A0 q) (hf : ∀ q, free q → A0 q) (hAX : ∀ q, q < H.size → AX q → A0 q)
    (kx : ∀ (E : String) (ce : Cell) (q9 : Addr) (u : SX) (t : State) (H1 : Heap) (locs1 : List Loc), t.heap = H1 → s.vm.Alike t.vm → px u → BX E u t → H.size ≤ H1.size → (∀ q : Nat, q < H.size → ¬ AX q → H1[q]? = H[q]?) → va_S A0 H0 H1 locs1 → H1[q9]? = some ce → ce.vm = .none → s.vm.findClass E = some ce.cls → vx_W p l e R s m args below meth c H1 locs1 (cells + mc) (slots + ms) Q (F0 m pc ls rest) q9)
    (kk : ∀ (r : UInt64) (u : S) (t : State) (H1 : Heap) (locs1 : List Loc), t.heap = H1 → s.vm.Alike t.vm → post r u → B u t → H.size ≤ H1.size → (∀ q : Nat, q < H.size → ¬ A1 q → H1[q]? = H[q]?) → va_S A0 H0 H1 locs1 → W p l e R s m args below meth c H1 locs1 (cells + mc) (slots + ms) Q (F0 m (pc + 3) ls (.double r :: rest))) : W p l e R s m args below meth c H locs cells slots Q (F0 m pc ls st0) := by
  intro T hT X
  rcases hr T hT X with ⟨v, st₀, t, T', L, h0, X', hL, e1, e2, ⟨⟨r, u, hv, hp, hb⟩, hF⟩, st⟩ | ⟨q, st₀, t, T', L, E, ce, h0, X', hL, e1, e2, ⟨u, hp, hb, hF⟩, hce, hcv, hcl, st⟩
  · cases hv
    obtain ⟨k1, k2, k3⟩ := vx_keep h0 e1 hS hA hf hL hF
    obtain ⟨t2, a1, b1⟩ := kk r u t T'.heap (locs ++ L) e1.symm (by rw [← e2]; exact X'.warmed.alike) hp hb k1 k2 k3 T' rfl X'
    exact ⟨t2, st t2 a1, b1⟩
  · obtain ⟨k1, k2, k3⟩ := vx_keep h0 e1 hS hAX hf hL hF
    obtain ⟨t2, a1, b1⟩ := kx E ce q u t T'.heap (locs ++ L) e1.symm (by rw [← e2]; exact X'.warmed.alike) hp hb k1 k2 k3 (by rw [e1]; exact hce) hcv hcl T' rfl X'
    exact ⟨t2, st.trans a1, b1⟩
theorem vx_callv {S SX : Type} {post : S → Prop} {px : SX → Prop} {B : S → State → Prop} {BX : String → SX → State → Prop} {AX : Nat → Prop} (hr : vx_Run p l e R s m args below meth c H locs cells slots mc ms (F0 m pc ls st0) rest (va_Qv post B A1 a) (vx_X px BX AX) free) (hS : va_S A0 H0 H locs) (hA : ∀ q, q < H.size → A1 q → A0 q) (hf : ∀ q, free q → A0 q) (hAX : ∀ q, q < H.size → AX q → A0 q)
    (kx : ∀ (E : String) (ce : Cell) (q9 : Addr) (u : SX) (t : State) (H1 : Heap) (locs1 : List Loc), t.heap = H1 → s.vm.Alike t.vm → px u → BX E u t → H.size ≤ H1.size → (∀ q : Nat, q < H.size → ¬ AX q → H1[q]? = H[q]?) → va_S A0 H0 H1 locs1 → H1[q9]? = some ce → ce.vm = .none → s.vm.findClass E = some ce.cls → vx_W p l e R s m args below meth c H1 locs1 (cells + mc) (slots + ms) Q (F0 m pc ls rest) q9)
    (kk : ∀ (u : S) (t : State) (H1 : Heap) (locs1 : List Loc), t.heap = H1 → s.vm.Alike t.vm → post u → B u t → H.size ≤ H1.size → (∀ q : Nat, q < H.size → ¬ A1 q → H1[q]? = H[q]?) → va_S A0 H0 H1 locs1 → W p l e R s m args below meth c H1 locs1 (cells + mc) (slots + ms) Q (F0 m (pc + 3) ls (rest))) : W p l e R s m args below meth c H locs cells slots Q (F0 m pc ls st0) := by
  intro T hT X
  rcases hr T hT X with ⟨v, st₀, t, T', L, h0, X', hL, e1, e2, ⟨⟨u, hv, hp, hb⟩, hF⟩, st⟩ | ⟨q, st₀, t, T', L, E, ce, h0, X', hL, e1, e2, ⟨u, hp, hb, hF⟩, hce, hcv, hcl, st⟩
  · cases hv
    obtain ⟨k1, k2, k3⟩ := vx_keep h0 e1 hS hA hf hL hF
    obtain ⟨t2, a1, b1⟩ := kk u t T'.heap (locs ++ L) e1.symm (by rw [← e2]; exact X'.warmed.alike) hp hb k1 k2 k3 T' rfl X'
    exact ⟨t2, st t2 a1, b1⟩
  · obtain ⟨k1, k2, k3⟩ := vx_keep h0 e1 hS hAX hf hL hF
    obtain ⟨t2, a1, b1⟩ := kx E ce q u t T'.heap (locs ++ L) e1.symm (by rw [← e2]; exact X'.warmed.alike) hp hb k1 k2 k3 (by rw [e1]; exact hce) hcv hcl T' rfl X'
    exact ⟨t2, st.trans a1, b1⟩
/-- caught by the row x of this method's table; the rows ahead don't take it -/
theorem vx_catch {own name : String} {E : String} {ce : Cell} {q : Addr} (hown : s.vm.findClass own = some m.cls) (pre : List ExceptionTableEntry) (x : ExceptionTableEntry) (suf : List ExceptionTableEntry) (hsplit : c.exceptionTable.toList = pre ++ x :: suf)
    (hpass : ∀ z ∈ pre, covers z pc = false ∨ (z.catchType ≠ 0 ∧ ∃ nm : String, (Cond.classLink own z.catchType nm).before args s = true ∧ va_Nc E nm s)) (hx : covers x pc = true) (h0 : x.catchType ≠ 0)
    (hlink : (Cond.classLink own x.catchType name).before args s = true) (hcast : (Cond.castable E name).before args s = true) (hcell : H[q]? = some ce) (hv : ce.vm = .none) (hcl : s.vm.findClass E = some ce.cls)
    (kk : W p l e R s m args below meth c H locs cells slots Q (F0 m x.handlerPc ls [.ref q])) : vx_W p l e R s m args below meth c H locs cells slots Q (F0 m pc ls rest) q := by
  intro T hT X
  have hpl : e.platform.magicAccessors = ({} : Platform).magicAccessors := by rw [X.admits.platform]
  obtain ⟨c3, c4, hc3, hc4, hasg⟩ := Cond.castable_spec hcast
  cases Option.some.inj (hc3.symm.trans hcl)
  obtain ⟨c5, hc5, hcl5⟩ := Cond.classLink_spec hown hlink e.platform hpl
  cases Option.some.inj (hc4.symm.trans hc5)
  obtain ⟨vm', X', st⟩ := X.thenCaughtThrough q (g := F0 m pc ls rest) rfl (Steps.refl _) (by rw [hT]; exact hcell) (by rw [hv]; rfl) (by obtain ⟨k9, h9, -⟩ := Vm.findClass_spec hcl; exact ⟨k9, h9⟩) pre x suf hsplit
    (fun z hz => by
      rcases hpass z hz with h | ⟨hz0, nm, hl1, hn1⟩
      · exact Or.inl h
      · obtain ⟨c6, hc6, hcl6⟩ := Cond.classLink_spec hown hl1 e.platform hpl
        obtain ⟨a8, b8, h1, h2, h3⟩ := hn1
        cases Option.some.inj (h1.symm.trans hcl)
        cases Option.some.inj (h2.symm.trans hc6)
        exact Or.inr ⟨hz0, _, hcl6, h3⟩) hx (Or.inr ⟨h0, c4, hcl5, hasg⟩)
  obtain ⟨t, a1, b1⟩ := kk (T.setVm vm') hT X'
  exact ⟨t, st.trans a1, b1⟩
end Rows
section Ends
variable {p : Program} {l : Launch} {e : Env} {R : Room} {s : State} {m : MethodId} {args : Array Value} {below : List Frame} {meth : Method} {c : Code} {H : Heap} {locs : List Loc} {cells slots : Nat} {Q : State → Prop}
variable {mc ms : Nat} {free : Addr → Prop} {A0 A1 : Nat → Prop} {H0 : Heap} {a : Array Value} {ls : Array Slot} {st0 rest : List Value}
variable {Qc : Array Value → State → Outcome → State → Prop} {XC : String → State → State → Prop}
/-- what a body that may throw owes at its end -/
def vx_MQ (below : List Frame) (Qc : Array Value → State → Outcome → State → Prop) (XC : String → State → State → Prop) (a : Array Value) (s : State) (mc ms : Nat) (free : Addr → Prop) : State → Prop := fun t =>
  ∃ o, t.status = .running ∧ Ended t below o ∧ vx_Q Qc XC mc ms free a s o t
theorem vx_ret {g : JFrame} {mc ms : Nat} (k : W p l e R s m args below meth c H locs cells slots (MQ below Qc args s mc ms free) g) : W p l e R s m args below meth c H locs cells slots (vx_MQ below Qc XC args s mc ms free) g := by
  intro T hT X
  obtain ⟨t, a1, o, b1, b2, b3, b4⟩ := k T hT X
  exact ⟨t, a1, o, b1, b2, Or.inl ⟨b3, b4⟩⟩
/-- not caught here: it goes on to the caller -/
theorem vx_widen {g : JFrame} {q : Addr} {k n : Nat} (h1 : cells ≤ k) (h2 : slots ≤ n) (kk : vx_W p l e R s m args below meth c H locs k n Q g q) : vx_W p l e R s m args below meth c H locs cells slots Q g q := fun T hT X => kk T hT (stand_widen X h1 h2)
theorem vx_out {pc : Nat} {E : String} {ce : Cell} {q : Addr} {mc ms : Nat} (hout : ∀ x ∈ c.exceptionTable.toList, covers x pc = false) (hlocks : meth.locks = false) (hcell : H[q]? = some ce) (hv : ce.vm = .none) (hcl : s.vm.findClass E = some ce.cls)
    (hx : ∀ t : State, t.heap = H → s.vm.Alike t.vm → XC E s t) (hf : ∀ z ∈ locs, free z.base) (hc : cells ≤ mc) (hs : slots ≤ ms) :
    vx_W p l e R s m args below meth c H locs cells slots (vx_MQ below Qc XC args s mc ms free) (F0 m pc ls rest) q := by
  intro T hT X
  obtain ⟨st1, hrun, hend, hW, hsm⟩ := X.leaveThrown q (g := F0 m pc ls rest) rfl rfl rfl hout hlocks
  have hcell9 : (T.setFrames (.throwing q :: below)).heap[q]? = some ce := by
    show T.heap[q]? = some ce
    rw [hT]; exact hcell
  exact ⟨_, st1, .threw q, hrun, hend, Or.inr ⟨q, rfl, E, ce, locs, hx _ hT hW.alike, hcell9, hv, hcl, hW, hsm.mono hc hs, hf⟩⟩
theorem vx_frame {U : State} {k n : Nat} (h : s.sameButNew ({ U with vm := s.vm } : State) locs k n) : s.heap.size ≤ U.heap.size ∧ ∀ q : Nat, q < s.heap.size → (∀ z ∈ locs, z.base ≠ q) → U.heap[q]? = s.heap[q]? := by
  obtain ⟨-, h2, -, -, -, h6⟩ := h
  refine ⟨h2, fun q hq hz => ?_⟩
  obtain ⟨c9, e1, e2, e3, e4⟩ := h6 q _ (Array.getElem?_eq_getElem hq)
  have hs : c9.slots = (s.heap[q]).slots := Array.ext_getElem? fun i => e4 i fun hm => hz _ hm rfl
  have h9 : c9 = s.heap[q] := by
    rw [hs] at e2
    exact e2
  have e5 : U.heap[q]? = some c9 := e1
  rw [e5, h9, Array.getElem?_eq_getElem hq]
/-- the words of a throw but the four that speak of the heap -/
def vx_no (w : Cond) : Bool := decide (w ≠ .isRef (.static Bundle.tN "UNASSIGNED_STACK" Bundle.steD)) && decide (w ≠ .isRef (.static Bundle.tN "SUPPRESSED_SENTINEL" Bundle.listD)) && decide (w ≠ .laysStatic Bundle.tN "UNASSIGNED_STACK" Bundle.steD) && decide (w ≠ .laysStatic Bundle.tN "SUPPRESSED_SENTINEL" Bundle.listD)
def vx_at0 (own : String) (ic : Nat) (X : String) (names : List String) : List Cond := (Bundle.ownAtoms0 own ic X names).filter vx_no
def vx_atS (own : String) (ic : Nat) (X : String) (names : List String) : List Cond := (Bundle.ownAtoms own ic X names).filter vx_no
/-- a word that the tables alone decide, or a good one -/
def vx_ot (w : Cond) : Bool := w.onTables || goodWord w
theorem vx_ot_at {args a' : Array Value} {s U : State} {w : Cond} (hW : s.WarmedH U.vm) (hvm : s.vm = U.vm) (hg : vx_ot w = true) (h : w.before args s = true) : w.before a' U = true := by
  simp only [vx_ot, Bool.or_eq_true] at hg
  rcases hg with hg | hg
  · exact va_tabs hg hvm h
  · exact word_at hW (good_of_word hg) h
/-- a list's words: the good ones out of the method's own list, the others by premises of their own -/
theorem vx_hat {args : Array Value} {s : State} {L B : List Cond} (h1 : ∀ w ∈ L.filter goodWord, w.before args s = true) (h2 : ∀ w ∈ L.filter (fun w => !goodWord w), w ∈ B) (h3 : ∀ w ∈ B, w.before args s = true) : ∀ w ∈ L, w.before args s = true := by
  intro w hw
  by_cases g : goodWord w = true
  · exact h1 w (List.mem_filter.mpr ⟨hw, g⟩)
  · refine h3 w (h2 w (List.mem_filter.mpr ⟨hw, ?_⟩))
    show (!goodWord w) = true
    cases hgw : goodWord w
    · rfl
    · exact absurd hgw g
theorem vx_c {args : Array Value} {s : State} {w : Cond} {B : List Cond} (h : w.before args s = true) (t : ∀ w ∈ B, w.before args s = true) : ∀ w' ∈ w :: B, w'.before args s = true := fun w' h' => (List.mem_cons.mp h').elim (fun e => by rw [e]; exact h) (t w')
theorem vx_n {args : Array Value} {s : State} : ∀ w ∈ ([] : List Cond), w.before args s = true := fun _ h => nomatch h
theorem vx_own {args : Array Value} {s : State} {L : List Cond} (h1 : ∀ w ∈ L.filter vx_no, w.before args s = true)
    (hU : (Cond.isRef (.static Bundle.tN "UNASSIGNED_STACK" Bundle.steD)).before args s = true) (hN : (Cond.isRef (.static Bundle.tN "SUPPRESSED_SENTINEL" Bundle.listD)).before args s = true)
    (lU : (Cond.laysStatic Bundle.tN "UNASSIGNED_STACK" Bundle.steD).before args s = true) (lN : (Cond.laysStatic Bundle.tN "SUPPRESSED_SENTINEL" Bundle.listD).before args s = true) : ∀ w ∈ L, w.before args s = true := by
  intro w hw
  by_cases e1 : w = .isRef (.static Bundle.tN "UNASSIGNED_STACK" Bundle.steD)
  · rw [e1]; exact hU
  · by_cases e2 : w = .isRef (.static Bundle.tN "SUPPRESSED_SENTINEL" Bundle.listD)
    · rw [e2]; exact hN
    · by_cases e3 : w = .laysStatic Bundle.tN "UNASSIGNED_STACK" Bundle.steD
      · rw [e3]; exact lU
      · by_cases e4 : w = .laysStatic Bundle.tN "SUPPRESSED_SENTINEL" Bundle.listD
        · rw [e4]; exact lN
        · exact h1 w (List.mem_filter.mpr ⟨hw, by unfold vx_no; rw [decide_eq_true e1, decide_eq_true e2, decide_eq_true e3, decide_eq_true e4]; rfl⟩)
/-- where a static field lies, its class's statics cell in H -/
def vx_L (C n d : String) (A : Nat → Prop) (U : State) (H : Heap) : Prop := ∃ (c : ClassId) (k : Class) (i : Nat) (f : Field) (a : Nat) (cell : Cell), U.vm.findClass C = some c ∧ U.fieldFound? C n d = some (c, k, i, f) ∧ f.isStatic = true ∧ k.statics = some a ∧ H[a]? = some cell ∧ cell.vm.isStatics = true ∧ cell.cls = c ∧ f.slot < cell.slots.size ∧ k.staticTypes[f.slot]? = some f.type ∧ ¬ A a
theorem vx_L.moved {C n d : String} {A : Nat → Prop} {u U : State} {H : Heap} (hvm : u.vm.Alike U.vm) (h : vx_L C n d A u H) : vx_L C n d A U H := by
  obtain ⟨c, k, i, f, a, cell, h1, h2, h3, h4, h5, h6, h7, h8, h9, h10⟩ := h
  obtain ⟨k', hi', he⟩ := State.fieldFound?_setVm hvm h2
  exact ⟨c, k', i, f, a, cell, by rw [hvm.findClass]; exact h1, hi', h3, by rw [he]; exact h4, h5, h6, h7, h8, by rw [he]; exact h9, h10⟩
theorem vx_L.kept {C n d : String} {A : Nat → Prop} {U : State} {H H1 : Heap} (h : vx_L C n d A U H) (hq : ∀ a : Nat, a < H.size → ¬ A a → H1[a]? = H[a]?) : vx_L C n d A U H1 := by
  obtain ⟨c, k, i, f, a, cell, h1, h2, h3, h4, h5, h6, h7, h8, h9, h10⟩ := h
  exact ⟨c, k, i, f, a, cell, h1, h2, h3, h4, by rw [hq a (Array.getElem?_eq_some_iff.mp h5).1 h10]; exact h5, h6, h7, h8, h9, h10⟩
theorem vx_L.narrow {C n d : String} {A B : Nat → Prop} {U : State} {H : Heap} (h : vx_L C n d A U H) (hAB : ∀ q, B q → A q) : vx_L C n d B U H := by
  obtain ⟨c, k, i, f, a, cell, h1, h2, h3, h4, h5, h6, h7, h8, h9, h10⟩ := h
  exact ⟨c, k, i, f, a, cell, h1, h2, h3, h4, h5, h6, h7, h8, h9, fun z => h10 (hAB _ z)⟩
theorem vx_L.word {C n d : String} {A : Nat → Prop} {s : State} {args : Array Value} (h : vx_L C n d A s s.heap) : (Cond.laysStatic C n d).before args s = true := by
  obtain ⟨c, k, i, f, a, cell, h1, h2, h3, h4, h5, h6, h7, h8, h9, -⟩ := h
  show (Cond.laysStatic C n d).holds args s none s [] = true
  exact Cond.laysStatic_of h1 h2 h3 h4 h5 h6 h7 h8 h9
/-- .. and what it holds: null or some reference -/
def vx_Zq (C n d : String) (A : Nat → Prop) (U : State) (H : Heap) : Prop := va_Zq C n d A U H ∧ vx_L C n d A U H
theorem vx_Zq.moved {C n d : String} {A : Nat → Prop} {u U : State} {H : Heap} (hvm : u.vm.Alike U.vm) (h : vx_Zq C n d A u H) : vx_Zq C n d A U H := ⟨va_Zq.moved hvm h.1, vx_L.moved hvm h.2⟩
theorem vx_Zq.kept {C n d : String} {A : Nat → Prop} {U : State} {H H1 : Heap} (h : vx_Zq C n d A U H) (hq : ∀ a : Nat, a < H.size → ¬ A a → H1[a]? = H[a]?) : vx_Zq C n d A U H1 := ⟨va_Zq.kept h.1 hq, vx_L.kept h.2 hq⟩
theorem vx_Zq.narrow {C n d : String} {A B : Nat → Prop} {U : State} {H : Heap} (h : vx_Zq C n d A U H) (hAB : ∀ q, B q → A q) : vx_Zq C n d B U H := ⟨va_Zq.narrow h.1 hAB, vx_L.narrow h.2 hAB⟩
theorem vx_Zqof {args : Array Value} {s : State} {C n d : String} {A : Nat → Prop} (hl : (Cond.laysStatic C n d).before args s = true) (hini : (Cond.initialized C).before args s = true) (h : (Cond.isRef (.static C n d)).before args s = true) (hA : ∀ a : Nat, a < s.heap.size → ¬ A a) : vx_Zq C n d A s s.heap := by
  refine ⟨va_Zqof hl hini h hA, ?_⟩
  obtain ⟨c, k, i, f, a, cell, h1, h2, h3, h4, h5, h6, h7, h8, h9⟩ := Cond.laysStatic_spec hl
  exact ⟨c, k, i, f, a, cell, h1, h2, h3, h4, h5, h6, h7, h8, h9, hA a (Array.getElem?_eq_some_iff.mp h5).1⟩
theorem vx_isRef {C n d : String} {v : Value} {A : Nat → Prop} {s : State} {args : Array Value} (h : va_Z C n d v A s s.heap) (hv : v.isRef = true) : (Cond.isRef (.static C n d)).before args s = true := by
  obtain ⟨cf, kf, fi, f, a, cell, h1, h2, h3, h4, h5, h6, h7, -⟩ := h
  have he : (Term.static C n d).eval args s none [] s = some v := by
    simp [Term.eval, State.fieldNamed?, h1, h2, h4, h5, h6, h7]
  simp only [Cond.before, Cond.holds, Cond.value, he]
  cases v <;> simp_all [Value.isRef]
theorem vx_isRefq {C n d : String} {A : Nat → Prop} {s : State} {args : Array Value} (h : va_Zq C n d A s s.heap) : (Cond.isRef (.static C n d)).before args s = true := by
  rcases h with h | ⟨t, h⟩
  · exact vx_isRef h rfl
  · exact vx_isRef h rfl
/-- the same frame, seen from here: as if the method were called anew in this heap -/
theorem vx_rebase {T : State} (X : Stand p l e R s m args below meth c T locs cells slots) {R' : Room} (hf : R'.frames ≤ R.frames) (hl : R'.locals ≤ R.locals) (hc : cells + R'.cells ≤ R.cells) (hs : slots + R'.slots ≤ R.slots) :
    Stand p l e R' ((T.setVm s.vm).setFrames (.invoking m args :: below)) m args below meth c T [] 0 0 := by
  have htop : (T.setVm s.vm).topJava?.isSome := X.here.top
  have hF : ((T.setVm s.vm).setFrames (.invoking m args :: below)).frames = .invoking m args :: below := State.frames_setFrames _ (State.cur_lt_of_top htop)
  obtain ⟨g₀, hg0⟩ := Option.isSome_iff_exists.mp htop
  obtain ⟨r, hr⟩ := State.topJava?_eq_some.mp hg0
  have hl9 : e.platform.stackLimits (T.setVm s.vm).me = e.platform.stackLimits s.me := X.limits
  have hb9 : (T.setVm s.vm).me.stackBytes = s.me.stackBytes := X.bytes
  refine ⟨X.admits, X.cas, X.clock, hF, ?_, X.hears, X.method, X.code, X.here, X.tail, X.warmed, ?_, ?_, ?_⟩
  · have h := X.room
    have hU : ((T.setVm s.vm).setFrames (.invoking m args :: below)).localsInUse = s.localsInUse := by
      rw [State.localsInUse_invoking hF (meth := meth) (c := c) X.method X.code, State.localsInUse_invoking X.frames X.method X.code]
    simp only [State.hasRoom, Bool.and_eq_true, decide_eq_true_eq] at h ⊢
    obtain ⟨⟨⟨⟨h1, h2, h3, h4, h5, h6⟩, h7⟩, h8⟩, h9⟩ := h
    rw [X.frames, List.length_cons] at h2 h3
    have q1 := X.heapSize
    have q2 := X.used
    simp only [hF, hU, List.length_cons, State.stackLimits_setFrames, State.stackBytes_setFrames, hl9, hb9]
    refine ⟨⟨⟨⟨by omega, by omega, by omega, by omega, by omega, h6⟩, ?_⟩, ?_⟩, X.book⟩
    · show T.heap.size + R'.cells ≤ e.platform.maxCells
      omega
    · show T.slotsUsed + R'.slots ≤ e.platform.maxSlots
      omega
  · rw [State.stackLimits_setFrames]; rfl
  · rw [State.stackBytes_setFrames]; rfl
  · refine ⟨?_, Nat.le_refl _, Nat.le_refl _, ?_, ?_, fun a c9 h9 => ⟨c9, h9, rfl, rfl, fun _ _ => rfl⟩⟩
    · obtain ⟨t, ht, -⟩ := State.frames_cons hr
      show T.setVm s.vm = { ((T.setVm s.vm).setFrames (.invoking m args :: below)).setFrames (T.setVm s.vm).frames with heap := T.heap, slotsUsed := T.slotsUsed }
      rw [State.setFrames_setFrames, State.setFrames_self ht]
      rfl
    · show T.slotsUsed = T.slotsUsed + ((T.heap.toList.drop T.heap.size).map (·.slots.size)).sum
      rw [List.drop_eq_nil_of_le (Nat.le_of_eq Array.length_toList)]
      rfl
    · show ((T.heap.toList.drop T.heap.size).map (·.slots.size)).sum ≤ 0
      rw [List.drop_eq_nil_of_le (Nat.le_of_eq Array.length_toList)]
      exact Nat.le_refl _
/-- 'throw new E()': new; dup; invokespecial; athrow -/
theorem vx_throw0 {cc : ByteArray} {pc : Nat} (hexec : p.tables.exec = Jvm.exec) (hb : c.code = cc) (hl : l.stackTraces = false) {own cls : String} {names : List String} {ik ic mc ms : Nat} {A : Nat → Prop}
    (hown : s.vm.findClass own = some m.cls) (hcls : Bundle.fit cls = true) (hnames : ∀ n ∈ names, Bundle.fit n = true)
    (hk : (Cond.classLink own ik cls).before args s = true) (hini : (Cond.initialized cls).before args s = true) (hat : ∀ w ∈ vx_at0 own ic cls names, w.before args s = true)
    (hgood : ∀ w ∈ Cond.classLink own ik cls :: Cond.initialized cls :: vx_at0 own ic cls names, vx_ot w = true)
    (hU : vx_Zq Bundle.tN "UNASSIGNED_STACK" Bundle.steD A s s.heap) (hN : vx_Zq Bundle.tN "SUPPRESSED_SENTINEL" Bundle.listD A s s.heap) (hS : va_S A s.heap H locs) (hsize : ls.size = c.maxLocals)
    (d0 : decode cc pc = .ok (.new ik, 3)) (d3 : decode cc (pc + 3) = .ok (.dup, 1)) (d4 : decode cc (pc + 4) = .ok (.invokespecial ic, 3)) (d7 : decode cc (pc + 7) = .ok (.athrow, 1))
    (hout : ∀ x ∈ c.exceptionTable.toList, covers x (pc + 7) = false)
    (hRframes : names.length + 3 < R.frames) (hRlocals : (rest.map fun v => v.category).sum + (13 * (names.length + 1) + 42) ≤ R.locals) (hRcells : cells + 1 ≤ R.cells) (hRslots : slots + 6 ≤ R.slots) (hlocks : meth.locks = false)
    (hx : ∀ t : State, s.vm.Alike t.vm → H.size ≤ t.heap.size → (∀ q : Nat, q < H.size → t.heap[q]? = H[q]?) → XC cls s t)
    (hf : ∀ z ∈ locs, free z.base) (hc : cells + 1 ≤ mc) (hs : slots + 6 ≤ ms) :
    W p l e R s m args below meth c H locs cells slots (vx_MQ below Qc XC args s mc ms free) (F0 m pc ls rest) := by
  intro T hT X
  have htr : e.platform.stackTraces = false := (show e.platform.stackTraces = l.stackTraces by rw [X.admits.platform]).trans hl
  have Y := vx_rebase X (R' := { frames := R.frames, locals := R.locals, cells := 1, slots := 6 }) (Nat.le_refl _) (Nat.le_refl _) hRcells hRslots
  obtain ⟨s', hA⟩ : ∃ z, z = (T.setVm s.vm).setFrames (.invoking m args :: below) := ⟨_, rfl⟩
  rw [← hA] at Y
  have hvm : s'.vm = s.vm := by rw [hA]; rfl
  have hhp : s'.heap = H := by rw [hA]; exact hT
  have hW0 : s.WarmedH s'.vm := by rw [hvm]; exact State.WarmedH.refl s
  have hat' : ∀ w ∈ vx_at0 own ic cls names, w.before args s' = true := fun w hw => vx_ot_at hW0 hvm.symm (hgood w (List.mem_cons_of_mem _ (List.mem_cons_of_mem _ hw))) (hat w hw)
  have hk' : (Cond.classLink own ik cls).before args s' = true := vx_ot_at hW0 hvm.symm (hgood _ List.mem_cons_self) hk
  have hini' : (Cond.initialized cls).before args s' = true := vx_ot_at hW0 hvm.symm (hgood _ (List.mem_cons_of_mem _ List.mem_cons_self)) hini
  have hU' : vx_Zq Bundle.tN "UNASSIGNED_STACK" Bundle.steD A s' s'.heap := by rw [hhp]; exact vx_Zq.moved hW0.alike (hU.kept hS.2.1)
  have hN' : vx_Zq Bundle.tN "SUPPRESSED_SENTINEL" Bundle.listD A s' s'.heap := by rw [hhp]; exact vx_Zq.moved hW0.alike (hN.kept hS.2.1)
  have h : ∀ w ∈ Bundle.ownAtoms0 own ic cls names, w.before args s' = true := vx_own hat' (vx_isRefq hU'.1) (vx_isRefq hN'.1) hU'.2.word hN'.2.word
  have hown' : s'.vm.findClass own = some m.cls := by rw [hvm]; exact hown
  have hins : (Cond.instantiable cls 6).before args s' = true := h _ (by simp [Bundle.ownAtoms0])
  obtain ⟨vm₁, cX, kX, hfX, hkX, -, -, X₁, st1⟩ := Y.newCold hexec (own := own) (C := cls) (index := ik) (n := 6) hown' hk' hins hini'
    (g := F0 m pc ls rest) rfl (by rw [hb]; exact d0) (Nat.le_refl _) (Nat.le_refl _)
  generalize hT1 : (T.setVm vm₁).pushCell { cls := cX, slots := kX.instanceTypes.map defaultValue, vm := .none } = T1 at X₁ st1
  have hcat : (Value.ref T.heap.size).category = 1 := rfl
  have hcellA : T1.heap[T.heap.size]? = some (freshCell cX kX) := by rw [← hT1]; exact State.heap_pushCell_size _ _
  have d3' : decode c.code (pc + 3) = .ok (.dup, 1) := by rw [hb]; exact d3
  obtain ⟨U, hsteps, hrun, hend, hW, hsame, ce, hce, hO⟩ := X₁.ctorThrow0 hexec htr (own := own) (cls := cls) (names := names) (ic := ic) hown' hcls hnames h (fun x hx => nomatch hx) hfX hkX hcellA (by rw [hhp, hT]; exact Nat.le_refl _)
    (g := { method := m, pc := pc + 4, locals := ls, stack := .ref T.heap.size :: .ref T.heap.size :: rest, locked := none }) rfl hsize rfl rfl (rest := rest) rfl
    (by rw [hb]; exact d4) (by rw [hb]; exact d7) hout hRframes (by simp only [List.map_cons, List.sum_cons, hcat]; omega) hlocks
  obtain ⟨f1, f2⟩ := vx_frame hsame
  rw [hhp] at f1 f2
  have hWs : s.WarmedH U.vm := State.WarmedH.trans hW0 hW
  have hcl : s.vm.findClass cls = some ce.cls := by
    have h9 := hO.cls
    rw [hvm] at h9
    exact h9
  have hall : s.sameButNew ({ U with vm := s.vm } : State) locs mc ms := by
    subst hA
    obtain ⟨e1, e2⟩ := hsame
    rw [State.setFrames_setFrames] at e1
    have h2 : (T.setVm s.vm).sameButNew ({ U with vm := s.vm } : State) [] (0 + 1) (0 + 6) := ⟨e1, e2⟩
    have h3 := X.same.trans h2
    rw [List.append_nil] at h3
    exact h3.mono hc hs
  refine ⟨U, ?_, .threw T.heap.size, hrun, hend, Or.inr ⟨T.heap.size, rfl, cls, ce, locs, hx U hWs.alike f1 (fun q hq => f2 q hq (fun z hz => nomatch hz)), hce, hO.vm, hcl, hWs, hall, hf⟩⟩
  refine st1 _ ?_
  show Steps p.tables e below (T1.setTop { method := m, pc := pc + 3, locals := ls, stack := .ref T.heap.size :: rest, locked := none }) _
  jvm_step X₁.here [X₁.here.top, hexec, d3', Value.category]
  exact hsteps
/-- 'throw new E("text")': new; dup; ldc; invokespecial; athrow -/
theorem vx_throwS {cc : ByteArray} {pc : Nat} (hexec : p.tables.exec = Jvm.exec) (hb : c.code = cc) (hl : l.stackTraces = false) {own cls text : String} {names : List String} {ik is ic mc ms sa : Nat} {A : Nat → Prop}
    (hown : s.vm.findClass own = some m.cls) (hcls : Bundle.fit cls = true) (hnames : ∀ n ∈ names, Bundle.fit n = true)
    (hk : (Cond.classLink own ik cls).before args s = true) (hini : (Cond.initialized cls).before args s = true) (hstr : vk_R own is text sa s) (hat : ∀ w ∈ vx_atS own ic cls names, w.before args s = true)
    (hgood : ∀ w ∈ Cond.classLink own ik cls :: Cond.initialized cls :: vx_atS own ic cls names, vx_ot w = true)
    (hU : vx_Zq Bundle.tN "UNASSIGNED_STACK" Bundle.steD A s s.heap) (hN : vx_Zq Bundle.tN "SUPPRESSED_SENTINEL" Bundle.listD A s s.heap) (hS : va_S A s.heap H locs) (hsize : ls.size = c.maxLocals)
    (d0 : decode cc pc = .ok (.new ik, 3)) (d3 : decode cc (pc + 3) = .ok (.dup, 1)) (d4 : decode cc (pc + 4) = .ok (.ldc is, 2)) (d6 : decode cc (pc + 6) = .ok (.invokespecial ic, 3)) (d9 : decode cc (pc + 9) = .ok (.athrow, 1))
    (hout : ∀ x ∈ c.exceptionTable.toList, covers x (pc + 9) = false)
    (hRframes : names.length + 3 < R.frames) (hRlocals : (rest.map fun v => v.category).sum + (13 * (names.length + 1) + 43) ≤ R.locals) (hRcells : cells + 1 ≤ R.cells) (hRslots : slots + 6 ≤ R.slots) (hlocks : meth.locks = false)
    (hx : ∀ t : State, s.vm.Alike t.vm → H.size ≤ t.heap.size → (∀ q : Nat, q < H.size → t.heap[q]? = H[q]?) → XC cls s t)
    (hf : ∀ z ∈ locs, free z.base) (hc : cells + 1 ≤ mc) (hs : slots + 6 ≤ ms) :
    W p l e R s m args below meth c H locs cells slots (vx_MQ below Qc XC args s mc ms free) (F0 m pc ls rest) := by
  intro T hT X
  have htr : e.platform.stackTraces = false := (show e.platform.stackTraces = l.stackTraces by rw [X.admits.platform]).trans hl
  have Y := vx_rebase X (R' := { frames := R.frames, locals := R.locals, cells := 1, slots := 6 }) (Nat.le_refl _) (Nat.le_refl _) hRcells hRslots
  obtain ⟨s', hA⟩ : ∃ z, z = (T.setVm s.vm).setFrames (.invoking m args :: below) := ⟨_, rfl⟩
  rw [← hA] at Y
  have hvm : s'.vm = s.vm := by rw [hA]; rfl
  have hhp : s'.heap = H := by rw [hA]; exact hT
  have hW0 : s.WarmedH s'.vm := by rw [hvm]; exact State.WarmedH.refl s
  have hat' : ∀ w ∈ vx_atS own ic cls names, w.before args s' = true := fun w hw => vx_ot_at hW0 hvm.symm (hgood w (List.mem_cons_of_mem _ (List.mem_cons_of_mem _ hw))) (hat w hw)
  have hk' : (Cond.classLink own ik cls).before args s' = true := vx_ot_at hW0 hvm.symm (hgood _ List.mem_cons_self) hk
  have hini' : (Cond.initialized cls).before args s' = true := vx_ot_at hW0 hvm.symm (hgood _ (List.mem_cons_of_mem _ List.mem_cons_self)) hini
  have hU' : vx_Zq Bundle.tN "UNASSIGNED_STACK" Bundle.steD A s' s'.heap := by rw [hhp]; exact vx_Zq.moved hW0.alike (hU.kept hS.2.1)
  have hN' : vx_Zq Bundle.tN "SUPPRESSED_SENTINEL" Bundle.listD A s' s'.heap := by rw [hhp]; exact vx_Zq.moved hW0.alike (hN.kept hS.2.1)
  have h : ∀ w ∈ Bundle.ownAtoms own ic cls names, w.before args s' = true := vx_own hat' (vx_isRefq hU'.1) (vx_isRefq hN'.1) hU'.2.word hN'.2.word
  have hown' : s'.vm.findClass own = some m.cls := by rw [hvm]; exact hown
  have hins : (Cond.instantiable cls 6).before args s' = true := h _ (by simp [Bundle.ownAtoms])
  obtain ⟨vm₁, cX, kX, hfX, hkX, -, -, X₁, st1⟩ := Y.newCold hexec (own := own) (C := cls) (index := ik) (n := 6) hown' hk' hins hini'
    (g := F0 m pc ls rest) rfl (by rw [hb]; exact d0) (Nat.le_refl _) (Nat.le_refl _)
  generalize hT1 : (T.setVm vm₁).pushCell { cls := cX, slots := kX.instanceTypes.map defaultValue, vm := .none } = T1 at X₁ st1
  have hcat : (Value.ref T.heap.size).category = 1 := rfl
  have hcellA : T1.heap[T.heap.size]? = some (freshCell cX kX) := by rw [← hT1]; exact State.heap_pushCell_size _ _
  have d3' : decode c.code (pc + 3) = .ok (.dup, 1) := by rw [hb]; exact d3
  have d4' : decode c.code (pc + 4) = .ok (.ldc is, 2) := by rw [hb]; exact d4
  have hstr' : vk_R own is text sa s' := vk_R.warm hW0 hstr
  obtain ⟨U, hsteps, hrun, hend, hW, hsame, ce, hce, hO⟩ := X₁.ctorThrowS hexec htr (own := own) (cls := cls) (names := names) (ic := ic) hown' hcls hnames h (fun x hx => nomatch hx) hfX hkX hcellA (by rw [hhp, hT]; exact Nat.le_refl _) (msg := .ref sa) rfl
    (g := { method := m, pc := pc + 6, locals := ls, stack := .ref sa :: .ref T.heap.size :: .ref T.heap.size :: rest, locked := none }) rfl hsize rfl rfl (rest := rest) rfl
    (by rw [hb]; exact d6) (by rw [hb]; exact d9) hout hRframes (by simp only [List.map_cons, List.sum_cons, hcat]; omega) hlocks
  obtain ⟨f1, f2⟩ := vx_frame hsame
  rw [hhp] at f1 f2
  have hWs : s.WarmedH U.vm := State.WarmedH.trans hW0 hW
  have hcl : s.vm.findClass cls = some ce.cls := by
    have h9 := hO.cls
    rw [hvm] at h9
    exact h9
  have hall : s.sameButNew ({ U with vm := s.vm } : State) locs mc ms := by
    subst hA
    obtain ⟨e1, e2⟩ := hsame
    rw [State.setFrames_setFrames] at e1
    have h2 : (T.setVm s.vm).sameButNew ({ U with vm := s.vm } : State) [] (0 + 1) (0 + 6) := ⟨e1, e2⟩
    have h3 := X.same.trans h2
    rw [List.append_nil] at h3
    exact h3.mono hc hs
  refine ⟨U, ?_, .threw T.heap.size, hrun, hend, Or.inr ⟨T.heap.size, rfl, cls, ce, locs, hx U hWs.alike f1 (fun q hq => f2 q hq (fun z hz => nomatch hz)), hce, hO.vm, hcl, hWs, hall, hf⟩⟩
  refine st1 _ ?_
  show Steps p.tables e below (T1.setTop { method := m, pc := pc + 3, locals := ls, stack := .ref T.heap.size :: rest, locked := none }) _
  jvm_step X₁.here [X₁.here.top, hexec, d3', Value.category]
  exact X₁.ldcString hexec (own := own) (text := text) (index := is) (a := sa) hown' hstr'.1 hstr'.2
    (g := { method := m, pc := pc + 4, locals := ls, stack := .ref T.heap.size :: .ref T.heap.size :: rest, locked := none }) rfl d4' _ hsteps
/-- 'throw new E("text")', the text by a wide index -/
theorem vx_throwSW {cc : ByteArray} {pc : Nat} (hexec : p.tables.exec = Jvm.exec) (hb : c.code = cc) (hl : l.stackTraces = false) {own cls text : String} {names : List String} {ik is ic mc ms sa : Nat} {A : Nat → Prop}
    (hown : s.vm.findClass own = some m.cls) (hcls : Bundle.fit cls = true) (hnames : ∀ n ∈ names, Bundle.fit n = true)
    (hk : (Cond.classLink own ik cls).before args s = true) (hini : (Cond.initialized cls).before args s = true) (hstr : vk_R own is text sa s) (hat : ∀ w ∈ vx_atS own ic cls names, w.before args s = true)
    (hgood : ∀ w ∈ Cond.classLink own ik cls :: Cond.initialized cls :: vx_atS own ic cls names, vx_ot w = true)
    (hU : vx_Zq Bundle.tN "UNASSIGNED_STACK" Bundle.steD A s s.heap) (hN : vx_Zq Bundle.tN "SUPPRESSED_SENTINEL" Bundle.listD A s s.heap) (hS : va_S A s.heap H locs) (hsize : ls.size = c.maxLocals)
    (d0 : decode cc pc = .ok (.new ik, 3)) (d3 : decode cc (pc + 3) = .ok (.dup, 1)) (d4 : decode cc (pc + 4) = .ok (.ldc_w is, 3)) (d7 : decode cc (pc + 7) = .ok (.invokespecial ic, 3)) (d10 : decode cc (pc + 10) = .ok (.athrow, 1))
    (hout : ∀ x ∈ c.exceptionTable.toList, covers x (pc + 10) = false)
    (hRframes : names.length + 3 < R.frames) (hRlocals : (rest.map fun v => v.category).sum + (13 * (names.length + 1) + 43) ≤ R.locals) (hRcells : cells + 1 ≤ R.cells) (hRslots : slots + 6 ≤ R.slots) (hlocks : meth.locks = false)
    (hx : ∀ t : State, s.vm.Alike t.vm → H.size ≤ t.heap.size → (∀ q : Nat, q < H.size → t.heap[q]? = H[q]?) → XC cls s t)
    (hf : ∀ z ∈ locs, free z.base) (hc : cells + 1 ≤ mc) (hs : slots + 6 ≤ ms) :
    W p l e R s m args below meth c H locs cells slots (vx_MQ below Qc XC args s mc ms free) (F0 m pc ls rest) := by
  intro T hT X
  have htr : e.platform.stackTraces = false := (show e.platform.stackTraces = l.stackTraces by rw [X.admits.platform]).trans hl
  have Y := vx_rebase X (R' := { frames := R.frames, locals := R.locals, cells := 1, slots := 6 }) (Nat.le_refl _) (Nat.le_refl _) hRcells hRslots
  obtain ⟨s', hA⟩ : ∃ z, z = (T.setVm s.vm).setFrames (.invoking m args :: below) := ⟨_, rfl⟩
  rw [← hA] at Y
  have hvm : s'.vm = s.vm := by rw [hA]; rfl
  have hhp : s'.heap = H := by rw [hA]; exact hT
  have hW0 : s.WarmedH s'.vm := by rw [hvm]; exact State.WarmedH.refl s
  have hat' : ∀ w ∈ vx_atS own ic cls names, w.before args s' = true := fun w hw => vx_ot_at hW0 hvm.symm (hgood w (List.mem_cons_of_mem _ (List.mem_cons_of_mem _ hw))) (hat w hw)
  have hk' : (Cond.classLink own ik cls).before args s' = true := vx_ot_at hW0 hvm.symm (hgood _ List.mem_cons_self) hk
  have hini' : (Cond.initialized cls).before args s' = true := vx_ot_at hW0 hvm.symm (hgood _ (List.mem_cons_of_mem _ List.mem_cons_self)) hini
  have hU' : vx_Zq Bundle.tN "UNASSIGNED_STACK" Bundle.steD A s' s'.heap := by rw [hhp]; exact vx_Zq.moved hW0.alike (hU.kept hS.2.1)
  have hN' : vx_Zq Bundle.tN "SUPPRESSED_SENTINEL" Bundle.listD A s' s'.heap := by rw [hhp]; exact vx_Zq.moved hW0.alike (hN.kept hS.2.1)
  have h : ∀ w ∈ Bundle.ownAtoms own ic cls names, w.before args s' = true := vx_own hat' (vx_isRefq hU'.1) (vx_isRefq hN'.1) hU'.2.word hN'.2.word
  have hown' : s'.vm.findClass own = some m.cls := by rw [hvm]; exact hown
  have hins : (Cond.instantiable cls 6).before args s' = true := h _ (by simp [Bundle.ownAtoms])
  obtain ⟨vm₁, cX, kX, hfX, hkX, -, -, X₁, st1⟩ := Y.newCold hexec (own := own) (C := cls) (index := ik) (n := 6) hown' hk' hins hini'
    (g := F0 m pc ls rest) rfl (by rw [hb]; exact d0) (Nat.le_refl _) (Nat.le_refl _)
  generalize hT1 : (T.setVm vm₁).pushCell { cls := cX, slots := kX.instanceTypes.map defaultValue, vm := .none } = T1 at X₁ st1
  have hcat : (Value.ref T.heap.size).category = 1 := rfl
  have hcellA : T1.heap[T.heap.size]? = some (freshCell cX kX) := by rw [← hT1]; exact State.heap_pushCell_size _ _
  have d3' : decode c.code (pc + 3) = .ok (.dup, 1) := by rw [hb]; exact d3
  have d4' : decode c.code (pc + 4) = .ok (.ldc_w is, 3) := by rw [hb]; exact d4
  have hstr' : vk_R own is text sa s' := vk_R.warm hW0 hstr
  obtain ⟨U, hsteps, hrun, hend, hW, hsame, ce, hce, hO⟩ := X₁.ctorThrowS hexec htr (own := own) (cls := cls) (names := names) (ic := ic) hown' hcls hnames h (fun x hx => nomatch hx) hfX hkX hcellA (by rw [hhp, hT]; exact Nat.le_refl _) (msg := .ref sa) rfl
    (g := { method := m, pc := pc + 7, locals := ls, stack := .ref sa :: .ref T.heap.size :: .ref T.heap.size :: rest, locked := none }) rfl hsize rfl rfl (rest := rest) rfl
    (by rw [hb]; exact d7) (by rw [hb]; exact d10) hout hRframes (by simp only [List.map_cons, List.sum_cons, hcat]; omega) hlocks
  obtain ⟨f1, f2⟩ := vx_frame hsame
  rw [hhp] at f1 f2
  have hWs : s.WarmedH U.vm := State.WarmedH.trans hW0 hW
  have hcl : s.vm.findClass cls = some ce.cls := by
    have h9 := hO.cls
    rw [hvm] at h9
    exact h9
  have hall : s.sameButNew ({ U with vm := s.vm } : State) locs mc ms := by
    subst hA
    obtain ⟨e1, e2⟩ := hsame
    rw [State.setFrames_setFrames] at e1
    have h2 : (T.setVm s.vm).sameButNew ({ U with vm := s.vm } : State) [] (0 + 1) (0 + 6) := ⟨e1, e2⟩
    have h3 := X.same.trans h2
    rw [List.append_nil] at h3
    exact h3.mono hc hs
  refine ⟨U, ?_, .threw T.heap.size, hrun, hend, Or.inr ⟨T.heap.size, rfl, cls, ce, locs, hx U hWs.alike f1 (fun q hq => f2 q hq (fun z hz => nomatch hz)), hce, hO.vm, hcl, hWs, hall, hf⟩⟩
  refine st1 _ ?_
  show Steps p.tables e below (T1.setTop { method := m, pc := pc + 3, locals := ls, stack := .ref T.heap.size :: rest, locked := none }) _
  jvm_step X₁.here [X₁.here.top, hexec, d3', Value.category]
  exact X₁.ldcStringW hexec (own := own) (text := text) (index := is) (a := sa) hown' hstr'.1 hstr'.2
    (g := { method := m, pc := pc + 4, locals := ls, stack := .ref T.heap.size :: .ref T.heap.size :: rest, locked := none }) rfl d4' _ hsteps
end Ends
section Bodies
variable {l : Launch}
theorem vx_ofW {y : MethodName} {ws ws' : List Cond} {rm : Room} {Pc : Array Value → State → Prop} {Qc : Array Value → State → Outcome → State → Prop} {XC : String → State → State → Prop} {mc ms : Nat} {free : Addr → Prop} {cc : ByteArray} {maxL : Nat} {ret : Option FieldType}
    (hy : plainName y.cls = true) (hw : ws = Cond.code y cc maxL ret :: ws')
    (body : ∀ p e s m args below meth c s₁, BodyLoose p l y (headSpec ws rm) cc maxL ret e s m args below meth c s₁ → c.maxLocals = maxL → (∀ x ∈ c.exceptionTable.toList, False) → Pc args s →
      W p l e (headSpec ws rm).room s m args below meth c s.heap [] 0 0 (vx_MQ below Qc XC args s mc ms free) (entryFrame m args maxL)) : vx_Met l y ws rm Pc Qc XC mc ms free := by
  refine MetFree.of_bodyS (code := cc) (maxLocals := maxL) (ret := ret) hy ?_ ?_
  · intro args s m h hn
    obtain ⟨meth, c, h1, h2, h3, h4, h5, h6, -, -⟩ := Cond.code_spec hn (atoms_spec (ws := ws) h _ (by rw [hw]; exact List.mem_cons_self))
    exact ⟨meth, c, h1, h2, h3, h4, h5, h6⟩
  · intro p e s m args below meth c s₁ B hml hP _
    have hh0 : s₁.heap = s.heap := by rw [B.state]; rfl
    have ht : ∀ x ∈ c.exceptionTable.toList, False := by
      obtain ⟨meth9, c9, h1, h2, -, -, -, -, h7, -⟩ := Cond.code_spec B.named (atoms_spec (ws := ws) B.pre _ (by rw [hw]; exact List.mem_cons_self))
      cases Option.some.inj (h1.symm.trans B.method)
      cases Option.some.inj (h2.symm.trans (Stand.of_body B).code)
      intro x hx
      rw [Array.isEmpty_iff.mp h7] at hx
      cases hx
    obtain ⟨t, a1, o, b1, b2, b3⟩ := body p e s m args below meth c s₁ B hml ht hP s₁ hh0 (Stand.of_body B)
    exact ⟨t, o, a1, b1, b2, b3⟩
/-- the table of a body with handlers -/
theorem vx_table {p : Program} {x y : MethodName} {S : Spec} {cc bytes : ByteArray} {maxL maxL' : Nat} {ret ret' : Option FieldType} {e : Env} {s s₁ : State} {m : MethodId} {args : Array Value} {below : List Frame} {meth : Method} {c : Code} {hh : List (Nat × Nat × Nat × Nat)}
    (B : BodyLoose p l y S cc maxL ret e s m args below meth c s₁) (h : (Cond.codeWith y bytes maxL' ret' hh).before args s = true) : c.exceptionTable.toList = tableOf hh := by
  obtain ⟨m9, meth9, c9, hn9, h1, h2, -, -, h6, -⟩ := Cond.codeWith_spec h
  cases Option.some.inj (hn9.symm.trans B.named)
  cases Option.some.inj (h1.symm.trans B.method)
  cases Option.some.inj (h2.symm.trans (Stand.of_body B).code)
  rw [← h6, table_eq]
end Bodies
end VXA
/-! ===== END ===== -/
/-! ===== BEGIN a static call of a method with an exception table ===== -/
section VXS
variable {p : Program} {l : Launch} {e : Env} {R : Room} {s : State} {m : MethodId} {args : Array Value} {below : List Frame} {meth : Method} {c : Code} {T : State} {H : Heap} {locs : List Loc} {cells slots : Nat}
abbrev vx_CSW (R : Room) (s : State) (args : Array Value) (own : String) (index : Nat) (y : MethodName) (bytes : ByteArray) (maxL : Nat) (ret : Option FieldType) (hh : List (Nat × Nat × Nat × Nat)) (ws : List Cond) (rm : Room) (mc ms n : Nat) : Prop :=
  (rm.cells = mc ∧ rm.slots = ms ∧ rm.frames + 1 ≤ R.frames ∧ 8 + (maxL + 11) + rm.locals ≤ R.locals ∧ (∀ w ∈ ws, ∀ (a' : Array Value) (U : State), s.WarmedH U.vm → w.before a' U = true) ∧ Cond.codeWith y bytes maxL ret hh ∈ ws) ∧
  (Cond.codeWith y bytes maxL ret hh).before args s = true ∧ (Cond.initialized y.cls).before args s = true ∧ (y.cls ≠ "java/lang/invoke/MethodHandle" ∧ y.cls ≠ "java/lang/invoke/VarHandle") ∧
  (∀ sig, parseMethodDescriptor y.desc = some sig → n = sig.parameters.length) ∧ (Cond.methodLink own index y).before args s = true ∧ (Cond.static y).before args s = true
theorem vx_cwSW {own : String} {index maxL mc ms : Nat} {y : MethodName} {bytes : ByteArray} {ret : Option FieldType} {hh : List (Nat × Nat × Nat × Nat)} {Ts ws ws' : List Cond} {rm : Room} (n : Nat) (ht : ∀ w ∈ Ts, w.before args s = true) (hT : GoodIn Ts (va_wsS own index y ws)) (hw : ws = Cond.codeWith y bytes maxL ret hh :: ws') (hrc : rm.cells = mc) (hrs : rm.slots = ms)
    (hd : y.cls ≠ "java/lang/invoke/MethodHandle" ∧ y.cls ≠ "java/lang/invoke/VarHandle" ∧ (parseMethodDescriptor y.desc).map (fun d => d.parameters.length) = some n) (hR : rm.frames + 1 ≤ R.frames ∧ 8 + (maxL + 11) + rm.locals ≤ R.locals) :
    vx_CSW R s args own index y bytes maxL ret hh ws rm mc ms n := by
  have ok : ∀ w ∈ va_wsS own index y ws, w.before args s = true := fun w h => ht w (hT w h).1
  have hG : GoodIn Ts ws := fun w h => hT w (by unfold va_wsS; exact List.mem_append_right _ h)
  have hc : Cond.codeWith y bytes maxL ret hh ∈ ws := by rw [hw]; exact List.mem_cons_self
  refine ⟨⟨hrc, hrs, hR.1, hR.2, pay_in ht hG, hc⟩, ht _ (hG _ hc).1, ok _ (by simp [va_wsS]), ⟨hd.1, hd.2.1⟩, fun sig h => ?_, ok _ (by simp [va_wsS]), ok _ (by simp [va_wsS])⟩
  have h2 := hd.2.2
  rw [h] at h2
  exact (Option.some.inj h2).symm
theorem vx_callSW (X : Stand p l e R s m args below meth c T locs cells slots) (hexec : p.tables.exec = Jvm.exec) {own : String} {index : Nat} {y : MethodName} {bytes : ByteArray} {maxL : Nat} {ret : Option FieldType} {hh : List (Nat × Nat × Nat × Nat)}
    (hown : s.vm.findClass own = some m.cls) (hlink : (Cond.methodLink own index y).before args s = true) (hstat : (Cond.static y).before args s = true) (hinit : (Cond.initialized y.cls).before args s = true)
    (hcode : (Cond.codeWith y bytes maxL ret hh).before args s = true) (hy : y.cls ≠ "java/lang/invoke/MethodHandle" ∧ y.cls ≠ "java/lang/invoke/VarHandle")
    {W9 : Nat} {Pre : Pt → Array Value → Prop} {Post : Pt → Array Value → Option Value → Pt → Prop} (hK : Back l R p e below s args y 3 W9 Pre Post)
    {g : JFrame} (hg : g.method = m) (hsize : g.locals.size = c.maxLocals) {argsL rest : List Value} (hlen : ∀ sig, parseMethodDescriptor y.desc = some sig → argsL.length = sig.parameters.length)
    (hstack : g.stack = argsL.reverse ++ rest) (hW : 2 * g.monitorRoom + (rest.map fun v => v.category).sum ≤ W9) (hdg : decode c.code g.pc = .ok (.invokestatic index, 3))
    (hpre : ∀ vm₁, s.WarmedH vm₁ → Pre ⟨T.setVm vm₁, locs, cells, slots⟩ argsL.toArray) :
    ∃ (v : Option Value) (vm₁ : Vm) (B : Pt), s.WarmedH vm₁ ∧ Stand p l e R s m args below meth c B.U B.locs B.cells B.slots ∧ Post ⟨T.setVm vm₁, locs, cells, slots⟩ argsL.toArray v B ∧
      ∀ target, Steps p.tables e below (B.U.setTop { g with pc := g.pc + 3, stack := v.toList ++ rest }) target → Steps p.tables e below (T.setTop g) target := by
  obtain ⟨mk, methM, cM, hnamed, hmethM, -, -, -, -, -, -, hsigM⟩ := Cond.codeWith_spec hcode
  have hstatic : methM.isStatic = true := Cond.static_spec hnamed hmethM hstat
  obtain ⟨kP, hkP, -⟩ := className_of_methodNamed hnamed
  have hinitP : kP.init = .initialized := Cond.initialized_spec (findClass_of_methodNamed hnamed) hkP hinit
  obtain ⟨vm₁, X₁, hstep₁⟩ := X.invokestatic hexec hown hlink hnamed hmethM hstatic hkP hinitP hy (g := g) hg (argsL := argsL) (rest := rest) (hlen _ hsigM) hstack hdg
  obtain ⟨v, B, X', hpost, hsteps⟩ := hK m meth c ⟨T.setVm vm₁, locs, cells, slots⟩ { g with stack := rest } (.invokestatic index) mk argsL.toArray X₁ hg hsize hdg hW (X₁.named hnamed) (hpre vm₁ X₁.warmed)
  exact ⟨v, vm₁, B, X₁.warmed, X', hpost, fun target h => hstep₁ _ fun acts => by rw [doInvoke_state]; exact hsteps.trans h⟩
theorem vx_runSW {y : MethodName} {bytes cc : ByteArray} {maxL nL mc ms n index : Nat} {ret : Option FieldType} {hh : List (Nat × Nat × Nat × Nat)} {ws : List Cond} {rm : Room} {Pc : Array Value → State → Prop} {Qc : Array Value → State → Outcome → State → Prop} {free : Addr → Prop} {Ts : List Cond} {own : String} {As rest : List Value} {g : JFrame}
    (S : CallFix p m c cc nL s args Ts own) (hM : Met l y ws rm Pc Qc mc ms free) (cw : vx_CSW R s args own index y bytes maxL ret hh ws rm mc ms n) (hp : PreS s H Pc As)
    (hg : g.method = m) (hn : As.length = n) (hsize : g.locals.size = nL) (hstack : g.stack = As.reverse ++ rest) (hW : 2 * g.monitorRoom + (rest.map fun v => v.category).sum ≤ 8) (hdg : decode cc g.pc = .ok (.invokestatic index, 3)) (hf : cells + mc ≤ R.cells ∧ slots + ms ≤ R.slots) :
    va_Run p l e R s m args below meth c H locs cells slots mc ms g rest (Qc As.toArray) (free) := by
  obtain ⟨⟨hrc, hrs, hfr, hlo, hws, hcw⟩, hcode, hini, hy, hlen, hl, hstt⟩ := cw
  have hK : Back l R p e below s args y 3 8 (PreOf R mc ms Pc) (PostOf Qc mc ms free) := va_backW (hh := hh) (bytes := bytes) (maxL := maxL) (ret := ret) hM hp.1 hrc hrs hfr hlo hws hcw (fun a' U hW => word_at hW (Or.inl (by first | rfl | simp [Cond.onTables, Cond.keeps, Cond.steady])) hini)
  obtain ⟨hx, hb, hml, ho, -⟩ := S
  intro T hT X
  obtain ⟨v, vm₁, ⟨U', l2, c2, s2⟩, hW₁, X', ⟨g', mk, t, L, e1, e2, hq, h1, hL, h2, h3⟩, st⟩ := vx_callSW X hx (hh := hh) (bytes := bytes) (maxL := maxL) (ret := ret) ho hl hstt hini hcode hy hK hg (hsize.trans hml.symm) (argsL := As) (rest := rest) (fun sig h => hn.trans (hlen sig h)) hstack hW (by rw [hb]; exact hdg)
    (fun vm₁ hW₁ => ⟨hf.1, hf.2, hp.2 (T.setVm vm₁) hT hW₁⟩)
  dsimp only [Pt.U, Pt.locs, Pt.cells, Pt.slots] at X' e1 e2 h1 h2 h3 st
  subst h1; subst h2; subst h3
  exact ⟨v, (T.setVm vm₁).calling g' mk As.toArray, t, U', L, hT, X', hL, e1, e2, hq, st⟩
/-- not caught here, past rows that name other classes: it goes on to the caller -/
theorem vx_outP {p : Program} {l : Launch} {e : Env} {R : Room} {s : State} {m : MethodId} {args : Array Value} {below : List Frame} {meth : Method} {c : Code} {H : Heap} {locs : List Loc} {cells slots : Nat} {free : Addr → Prop} {ls : Array Slot} {rest : List Value} {Qc : Array Value → State → Outcome → State → Prop} {XC : String → State → State → Prop}
    {pc : Nat} {own E : String} {ce : Cell} {q : Addr} {mc ms : Nat} (hown : s.vm.findClass own = some m.cls) (hlocks : meth.locks = false)
    (hpass : ∀ z ∈ c.exceptionTable.toList, covers z pc = false ∨ (z.catchType ≠ 0 ∧ ∃ nm : String, (Cond.classLink own z.catchType nm).before args s = true ∧ va_Nc E nm s)) (hcell : H[q]? = some ce) (hv : ce.vm = .none) (hcl : s.vm.findClass E = some ce.cls)
    (hx : ∀ t : State, t.heap = H → s.vm.Alike t.vm → XC E s t) (hf : ∀ z ∈ locs, free z.base) (hc : cells ≤ mc) (hs : slots ≤ ms) :
    vx_W p l e R s m args below meth c H locs cells slots (vx_MQ below Qc XC args s mc ms free) (F0 m pc ls rest) q := by
  intro T hT X
  have hpl : e.platform.magicAccessors = ({} : Platform).magicAccessors := by rw [X.admits.platform]
  obtain ⟨vm', hW', X', st⟩ := X.outThrough hlocks q (g := F0 m pc ls rest) rfl rfl rfl (cell := ce) (by rw [hT]; exact hcell) (by rw [hv]; rfl)
    (by obtain ⟨k9, h9, -⟩ := Vm.findClass_spec hcl; exact ⟨k9, h9⟩) (fun z hz => by
      rcases hpass z hz with h | ⟨hz0, nm, hl1, hn1⟩
      · exact Or.inl h
      · obtain ⟨c6, hc6, hcl6⟩ := Cond.classLink_spec hown hl1 e.platform hpl
        obtain ⟨a8, b8, h1, h2, h3⟩ := hn1
        cases Option.some.inj (h1.symm.trans hcl)
        cases Option.some.inj (h2.symm.trans hc6)
        exact Or.inr ⟨hz0, _, hcl6, h3⟩)
  obtain ⟨g₀, hfr⟩ := X'.frames_eq
  have hcell9 : ((T.setVm vm').setFrames (.throwing q :: below)).heap[q]? = some ce := by
    show T.heap[q]? = some ce
    rw [hT]; exact hcell
  have hend : Ended ((T.setVm vm').setFrames (.throwing q :: below)) below (.threw q) := State.frames_setFrames _ (State.cur_lt_of_frames hfr)
  refine ⟨(T.setVm vm').setFrames (.throwing q :: below), ?_, .threw q, X'.here.running, hend, Or.inr ⟨q, rfl, E, ce, locs, hx _ hT (X'.ends _).1.alike, hcell9, hv, hcl, (X'.ends _).1, (X'.ends _).2.mono hc hs, hf⟩⟩
  rw [X.pushThrowing_eq]
  exact st
/-- a thing of a world lies in the heap -/
theorem vx_lt {D : va_G} {cl : List vw_C} {ws : va_W} {H1 : Heap} (h : va_P D cl ws H1) {k : Nat} {q : Nat × va_E} (hk : ws[k]? = some q) : q.1 < H1.size := (h k q hk).lt
end VXS
/-! ===== END ===== -/
/-! ===== BEGIN methods with a table of their own: called by a name, returning or throwing ===== -/
section VXH
/-! vx_backW, vx_callVX, vx_callSX, vx_callVW, vx_runVW, vx_runVX, vx_runSX, vx_ofWH follow the same proofs as their sisters above (Free/Laws.lean, Shelf42/LK1.lean); vx_outP calls Shelf42/NT130.lean (outThrough). -/
section
variable {l : Launch} {R : Room} {p : Program} {e : Env} {below : List Frame} {s : State} {sargs : Array Value} {y : MethodName} {len W9 : Nat}
theorem vx_backW {ws : List Cond} {rm : Room} {Pc : Array Value → State → Prop} {Qc : Array Value → State → Outcome → State → Prop} {XC : String → State → State → Prop} {mc ms : Nat} {free : Addr → Prop} {bytes : ByteArray} {maxL : Nat} {ret : Option FieldType} {hh : List (Nat × Nat × Nat × Nat)}
    (hM : vx_Met l y ws rm Pc Qc XC mc ms free) (hblind : FrameBlind Pc) (hrc : rm.cells = mc) (hrs : rm.slots = ms)
    (hframes : rm.frames + 1 ≤ R.frames) (hlocals : W9 + (maxL + 11) + rm.locals ≤ R.locals)
    (hws : ∀ w ∈ ws, ∀ a' U, s.WarmedH U.vm → w.before a' U = true) (hcode : Cond.codeWith y bytes maxL ret hh ∈ ws) (hinit : ∀ a' U, s.WarmedH U.vm → (Cond.initialized y.cls).before a' U = true) :
    vx_Back l R p e below s sargs y len W9 (PreOf R mc ms Pc) (PostOf Qc mc ms free) (vx_Post XC mc ms free) := by
  intro m meth c A g ig mk a X hg hsize hdg hW hn hp
  have h1 : (headSpec ws rm).pre.before a A.U = true := atoms_intro fun w hw => hws w hw _ _ X.warmed
  have h2 : (Cond.codeWith y bytes maxL ret hh).before a A.U = true := hws _ hcode _ _ X.warmed
  have h3 : (Cond.initialized y.cls).before a A.U = true := hinit _ _ X.warmed
  have h4 : A.cells + (headSpec ws rm).room.cells ≤ R.cells := by rw [show (headSpec ws rm).room.cells = mc from hrc]; exact hp.1
  have h5 : A.slots + (headSpec ws rm).room.slots ≤ R.slots := by rw [show (headSpec ws rm).room.slots = ms from hrs]; exact hp.2.1
  have hPc : Pc a (A.U.calling g mk a) := hblind _ _ _ _ hp.2.2
  obtain ⟨U, Ls, c0, s0⟩ := A
  dsimp only [Pt.U, Pt.locs, Pt.cells, Pt.slots] at h1 h2 h3 h4 h5 X hn hPc ⊢
  obtain ⟨m9, methY, cY, hn9, hmY, hcY, -, hlY, -⟩ := Cond.codeWith_spec h2
  cases Option.some.inj (hn9.symm.trans hn)
  obtain ⟨kY, hkY, -⟩ := className_of_methodNamed hn
  have hinitY : kY.init = .initialized := Cond.initialized_spec (findClass_of_methodNamed hn) hkY h3
  have h : At U g.method c below := by rw [hg]; exact X.here
  have hlocals9 : W9 + (maxL + 11) + (headSpec ws rm).room.locals ≤ R.locals := hlocals
  have happ : (headSpec ws rm).appliesLoose y e.platform (U.calling g mk a) = true :=
    Spec.appliesLoose_calling (g := g) h hdg hn hkY hinitY
      (X.room_calling (g := g) (R' := (headSpec ws rm).room) hsize hmY hcY hframes (by rw [hlY]; omega) h4 h5) h1
  obtain ⟨mid, hmid⟩ := h.above
  have hfr : (U.setTop g).frames = (.java g :: mid) ++ below := by rw [State.frames_setTop' g h.top, hmid]; rfl
  obtain ⟨o, s₂, hsteps, -, hend, hq⟩ := Steps.callFree hM p X.admits X.cas X.clock (acts := []) hfr happ hPc trivial
  have hq' : vx_Q Qc XC mc ms free a (U.calling g mk a) o s₂ := hq
  rw [State.frames_setTop' g h.top] at hend
  obtain ⟨g₀, hg0⟩ := Option.isSome_iff_exists.mp h.top
  obtain ⟨r, hr⟩ := State.topJava?_eq_some.mp hg0
  have hr' : (({ U with heap := s₂.heap, slotsUsed := s₂.slotsUsed } : State).setVm s₂.vm).frames = .java g₀ :: r := hr
  rcases hq' with ⟨hqc, L, hfe, hL⟩ | ⟨q, rfl, E, ce, L, hx, hce, hcv, hcl, hW₂, hsm, hL⟩
  · obtain ⟨⟨v, rfl⟩, hW₂, e2, q2, q3, q4, q5, q6⟩ := id hfe
    have e3 : s₂ = ({ (U.calling g mk a).setFrames s₂.frames with heap := s₂.heap, slotsUsed := s₂.slotsUsed } : State).setVm s₂.vm := by
      have : s₂ = ({ s₂ with vm := (U.calling g mk a).vm } : State).setVm s₂.vm := rfl
      rw [e2] at this
      exact this
    obtain ⟨c₂, i₂, len₂, hc₂, hd₂, hf₂⟩ := hend
    have hW' : U.WarmedH s₂.vm := hW₂
    have hcc : c₂ = c := by
      have h1 : s₂.code? g.method = U.code? g.method := by
        rw [State.code?_eq, State.code?_eq, hW'.alike.method?]
      exact Option.some.inj (hc₂.symm.trans (h1.trans h.code))
    subst hcc
    have hlen : len₂ = len := by rw [hdg] at hd₂; cases hd₂; rfl
    subst hlen
    have hs₂ : s₂ = (({ U with heap := s₂.heap, slotsUsed := s₂.slotsUsed } : State).setVm s₂.vm).setTop { g with pc := g.pc + len₂, stack := v.toList ++ g.stack } := by
      refine e3.trans ?_
      rw [hf₂, State.calling_eq h.top, State.setFrames_setFrames, State.setTop_of_frames _ hr', hr]
      rfl
    have hsame : U.sameButNew ({ U with heap := s₂.heap, slotsUsed := s₂.slotsUsed } : State) L mc ms := by
      refine ⟨?_, q2, q3, q4, q5, q6⟩
      obtain ⟨t, ht, -⟩ := State.frames_cons hr
      show ({ U with heap := s₂.heap, slotsUsed := s₂.slotsUsed } : State) = { U.setFrames U.frames with heap := s₂.heap, slotsUsed := s₂.slotsUsed }
      rw [State.setFrames_self ht]
    subst hg
    refine Or.inl ⟨v, ⟨(({ U with heap := s₂.heap, slotsUsed := s₂.slotsUsed } : State).setVm s₂.vm), Ls ++ L, c0 + mc, s0 + ms⟩,
      ⟨X.admits, X.cas, X.clock, X.frames, X.room, X.hears, X.method, X.code, (X.here.setHeapUsed s₂.heap s₂.slotsUsed).setVm hW'.alike, X.tail, State.WarmedH.trans X.warmed hW', X.limits, X.bytes, X.same.trans (hsame.setVm s.vm)⟩,
      ⟨g, mk, s₂, L, rfl, rfl, hqc, rfl, hL, rfl, rfl⟩, ?_⟩
    show Steps p.tables e below _ ((({ U with heap := s₂.heap, slotsUsed := s₂.slotsUsed } : State).setVm s₂.vm).setTop { g with pc := g.pc + len₂, stack := v.toList ++ g.stack })
    rw [← hs₂]
    exact hsteps
  · obtain ⟨e2, q2, q3, q4, q5, q6⟩ := id hsm
    have e3 : s₂ = ({ (U.calling g mk a).setFrames s₂.frames with heap := s₂.heap, slotsUsed := s₂.slotsUsed } : State).setVm s₂.vm := by
      have : s₂ = ({ s₂ with vm := (U.calling g mk a).vm } : State).setVm s₂.vm := rfl
      rw [e2] at this
      exact this
    have hf₂ : s₂.frames = .throwing q :: .java g :: U.frames.tail := hend
    have hW' : U.WarmedH s₂.vm := hW₂
    have hs₂ : s₂ = ((({ U with heap := s₂.heap, slotsUsed := s₂.slotsUsed } : State).setVm s₂.vm).setTop g).pushFrame (.throwing q) := by
      refine e3.trans ?_
      rw [hf₂, State.calling_eq h.top, State.setFrames_setFrames, State.pushFrame, State.frames_setTop _ hr', State.setTop_of_frames _ hr', State.setFrames_setFrames, hr]
      rfl
    have hsame : U.sameButNew ({ U with heap := s₂.heap, slotsUsed := s₂.slotsUsed } : State) L mc ms := by
      refine ⟨?_, q2, q3, q4, q5, q6⟩
      obtain ⟨t, ht, -⟩ := State.frames_cons hr
      show ({ U with heap := s₂.heap, slotsUsed := s₂.slotsUsed } : State) = { U.setFrames U.frames with heap := s₂.heap, slotsUsed := s₂.slotsUsed }
      rw [State.setFrames_self ht]
    subst hg
    refine Or.inr ⟨q, ⟨(({ U with heap := s₂.heap, slotsUsed := s₂.slotsUsed } : State).setVm s₂.vm), Ls ++ L, c0 + mc, s0 + ms⟩,
      ⟨X.admits, X.cas, X.clock, X.frames, X.room, X.hears, X.method, X.code, (X.here.setHeapUsed s₂.heap s₂.slotsUsed).setVm hW'.alike, X.tail, State.WarmedH.trans X.warmed hW', X.limits, X.bytes, X.same.trans (hsame.setVm s.vm)⟩,
      ⟨g, mk, s₂, L, E, ce, rfl, rfl, hx, hce, hcv, hcl, rfl, hL, rfl, rfl⟩, ?_⟩
    show Steps p.tables e below _ (((({ U with heap := s₂.heap, slotsUsed := s₂.slotsUsed } : State).setVm s₂.vm).setTop g).pushFrame (.throwing q))
    rw [← hs₂]
    exact hsteps
end
variable {p : Program} {l : Launch} {e : Env} {R : Room} {s : State} {m : MethodId} {args : Array Value} {below : List Frame} {meth : Method} {c : Code} {T : State} {H : Heap} {locs : List Loc} {cells slots : Nat}
theorem vx_callVX (X : Stand p l e R s m args below meth c T locs cells slots) (hexec : p.tables.exec = Jvm.exec) {own C : String} {index : Nat} {y : MethodName} {bytes : ByteArray} {maxL : Nat} {ret : Option FieldType} {hh : List (Nat × Nat × Nat × Nat)}
    (hown : s.vm.findClass own = some m.cls) (hlink : (Cond.methodLink own index y).before args s = true) (hinst : (Cond.instanceMethod y).before args s = true) (hsel : (Cond.selects C y y).before args s = true)
    (hcode : (Cond.codeWith y bytes maxL ret hh).before args s = true) (hy : y.cls ≠ "java/lang/invoke/MethodHandle" ∧ y.cls ≠ "java/lang/invoke/VarHandle")
    {W9 : Nat} {Pre : Pt → Array Value → Prop} {Post : Pt → Array Value → Option Value → Pt → Prop} {PostX : Pt → Array Value → Addr → Pt → Prop} (hK : vx_Back l R p e below s args y 3 W9 Pre Post PostX)
    {b : Addr} {cellB : Cell} (hcell : T.heap[b]? = some cellB) (hobj : cellB.vm.isStatics = false) (hcls : s.vm.findClass C = some cellB.cls)
    {g : JFrame} (hg : g.method = m) (hsize : g.locals.size = c.maxLocals) {argsL rest : List Value} (hlen : ∀ sig, parseMethodDescriptor y.desc = some sig → argsL.length = sig.parameters.length)
    (hstack : g.stack = argsL.reverse ++ .ref b :: rest) (hW : 2 * g.monitorRoom + (rest.map fun v => v.category).sum ≤ W9) (hdg : decode c.code g.pc = .ok (.invokevirtual index, 3))
    (hpre : ∀ vm₁, s.WarmedH vm₁ → Pre ⟨T.setVm vm₁, locs, cells, slots⟩ (Value.ref b :: argsL).toArray) :
    (∃ (v : Option Value) (vm₁ : Vm) (B : Pt), s.WarmedH vm₁ ∧ Stand p l e R s m args below meth c B.U B.locs B.cells B.slots ∧ Post ⟨T.setVm vm₁, locs, cells, slots⟩ (Value.ref b :: argsL).toArray v B ∧
      ∀ target, Steps p.tables e below (B.U.setTop { g with pc := g.pc + 3, stack := v.toList ++ rest }) target → Steps p.tables e below (T.setTop g) target) ∨
    (∃ (q : Addr) (vm₁ : Vm) (B : Pt), s.WarmedH vm₁ ∧ Stand p l e R s m args below meth c B.U B.locs B.cells B.slots ∧ PostX ⟨T.setVm vm₁, locs, cells, slots⟩ (Value.ref b :: argsL).toArray q B ∧
      Steps p.tables e below (T.setTop g) ((B.U.setTop { g with stack := rest }).pushFrame (.throwing q))) := by
  obtain ⟨mk, methM, hnamed, hmethM, hstM, habM⟩ := Cond.instanceMethod_spec hinst
  obtain ⟨m8, methM', cM, hn8, hmethM', -, -, -, -, -, -, hsigM⟩ := Cond.codeWith_spec hcode
  cases Option.some.inj (hn8.symm.trans hnamed)
  cases hmethM.symm.trans hmethM'
  obtain ⟨c2, r2, m2, q1, q2, q3, q4, kP, hkP, hkPi⟩ := Cond.selects_spec hsel
  cases hcls.symm.trans q1
  cases (State.methodFound?_of_named hnamed hy).symm.trans q2
  cases hnamed.symm.trans q3
  have hselP : selectMethod e.platform s.vm cellB.cls mk = .method mk := by rw [Launch.admits_selectMethod X.admits]; exact q4
  obtain ⟨vm₁, X₁, hstep₁⟩ := X.invokevirtual hexec hown hlink hnamed hmethM hstM hkP hkPi hy (a := b) (cell := cellB) hcell
    (fun z h => by rw [h] at hobj; cases hobj) hselP hmethM habM hkP hkPi (g := g) hg (argsL := argsL) (rest := rest) (hlen _ hsigM) hstack hdg
  rcases hK m meth c ⟨T.setVm vm₁, locs, cells, slots⟩ { g with stack := rest } (.invokevirtual index) mk (Value.ref b :: argsL).toArray X₁ hg hsize hdg hW (X₁.named hnamed) (hpre vm₁ X₁.warmed) with ⟨v, B, X', hpost, hsteps⟩ | ⟨q, B, X', hpost, hsteps⟩
  · exact Or.inl ⟨v, vm₁, B, X₁.warmed, X', hpost, fun target h => hstep₁ _ fun acts => by rw [doInvoke_state]; exact hsteps.trans h⟩
  · exact Or.inr ⟨q, vm₁, B, X₁.warmed, X', hpost, hstep₁ _ fun acts => by rw [doInvoke_state]; exact hsteps⟩
theorem vx_callSX (X : Stand p l e R s m args below meth c T locs cells slots) (hexec : p.tables.exec = Jvm.exec) {own : String} {index : Nat} {y : MethodName} {bytes : ByteArray} {maxL : Nat} {ret : Option FieldType} {hh : List (Nat × Nat × Nat × Nat)}
    (hown : s.vm.findClass own = some m.cls) (hlink : (Cond.methodLink own index y).before args s = true) (hstat : (Cond.static y).before args s = true) (hinit : (Cond.initialized y.cls).before args s = true)
    (hcode : (Cond.codeWith y bytes maxL ret hh).before args s = true) (hy : y.cls ≠ "java/lang/invoke/MethodHandle" ∧ y.cls ≠ "java/lang/invoke/VarHandle")
    {W9 : Nat} {Pre : Pt → Array Value → Prop} {Post : Pt → Array Value → Option Value → Pt → Prop} {PostX : Pt → Array Value → Addr → Pt → Prop} (hK : vx_Back l R p e below s args y 3 W9 Pre Post PostX)
    {g : JFrame} (hg : g.method = m) (hsize : g.locals.size = c.maxLocals) {argsL rest : List Value} (hlen : ∀ sig, parseMethodDescriptor y.desc = some sig → argsL.length = sig.parameters.length)
    (hstack : g.stack = argsL.reverse ++ rest) (hW : 2 * g.monitorRoom + (rest.map fun v => v.category).sum ≤ W9) (hdg : decode c.code g.pc = .ok (.invokestatic index, 3))
    (hpre : ∀ vm₁, s.WarmedH vm₁ → Pre ⟨T.setVm vm₁, locs, cells, slots⟩ argsL.toArray) :
    (∃ (v : Option Value) (vm₁ : Vm) (B : Pt), s.WarmedH vm₁ ∧ Stand p l e R s m args below meth c B.U B.locs B.cells B.slots ∧ Post ⟨T.setVm vm₁, locs, cells, slots⟩ argsL.toArray v B ∧
      ∀ target, Steps p.tables e below (B.U.setTop { g with pc := g.pc + 3, stack := v.toList ++ rest }) target → Steps p.tables e below (T.setTop g) target) ∨
    (∃ (q : Addr) (vm₁ : Vm) (B : Pt), s.WarmedH vm₁ ∧ Stand p l e R s m args below meth c B.U B.locs B.cells B.slots ∧ PostX ⟨T.setVm vm₁, locs, cells, slots⟩ argsL.toArray q B ∧
      Steps p.tables e below (T.setTop g) ((B.U.setTop { g with stack := rest }).pushFrame (.throwing q))) := by
  obtain ⟨mk, methM, cM, hnamed, hmethM, -, -, -, -, -, -, hsigM⟩ := Cond.codeWith_spec hcode
  have hstatic : methM.isStatic = true := Cond.static_spec hnamed hmethM hstat
  obtain ⟨kP, hkP, -⟩ := className_of_methodNamed hnamed
  have hinitP : kP.init = .initialized := Cond.initialized_spec (findClass_of_methodNamed hnamed) hkP hinit
  obtain ⟨vm₁, X₁, hstep₁⟩ := X.invokestatic hexec hown hlink hnamed hmethM hstatic hkP hinitP hy (g := g) hg (argsL := argsL) (rest := rest) (hlen _ hsigM) hstack hdg
  rcases hK m meth c ⟨T.setVm vm₁, locs, cells, slots⟩ { g with stack := rest } (.invokestatic index) mk argsL.toArray X₁ hg hsize hdg hW (X₁.named hnamed) (hpre vm₁ X₁.warmed) with ⟨v, B, X', hpost, hsteps⟩ | ⟨q, B, X', hpost, hsteps⟩
  · exact Or.inl ⟨v, vm₁, B, X₁.warmed, X', hpost, fun target h => hstep₁ _ fun acts => by rw [doInvoke_state]; exact hsteps.trans h⟩
  · exact Or.inr ⟨q, vm₁, B, X₁.warmed, X', hpost, hstep₁ _ fun acts => by rw [doInvoke_state]; exact hsteps⟩
theorem vx_callVW (X : Stand p l e R s m args below meth c T locs cells slots) (hexec : p.tables.exec = Jvm.exec) {own C : String} {index : Nat} {y : MethodName} {bytes : ByteArray} {maxL : Nat} {ret : Option FieldType} {hh : List (Nat × Nat × Nat × Nat)}
    (hown : s.vm.findClass own = some m.cls) (hlink : (Cond.methodLink own index y).before args s = true) (hinst : (Cond.instanceMethod y).before args s = true) (hsel : (Cond.selects C y y).before args s = true)
    (hcode : (Cond.codeWith y bytes maxL ret hh).before args s = true) (hy : y.cls ≠ "java/lang/invoke/MethodHandle" ∧ y.cls ≠ "java/lang/invoke/VarHandle")
    {W9 : Nat} {Pre : Pt → Array Value → Prop} {Post : Pt → Array Value → Option Value → Pt → Prop} (hK : Back l R p e below s args y 3 W9 Pre Post)
    {b : Addr} {cellB : Cell} (hcell : T.heap[b]? = some cellB) (hobj : cellB.vm.isStatics = false) (hcls : s.vm.findClass C = some cellB.cls)
    {g : JFrame} (hg : g.method = m) (hsize : g.locals.size = c.maxLocals) {argsL rest : List Value} (hlen : ∀ sig, parseMethodDescriptor y.desc = some sig → argsL.length = sig.parameters.length)
    (hstack : g.stack = argsL.reverse ++ .ref b :: rest) (hW : 2 * g.monitorRoom + (rest.map fun v => v.category).sum ≤ W9) (hdg : decode c.code g.pc = .ok (.invokevirtual index, 3))
    (hpre : ∀ vm₁, s.WarmedH vm₁ → Pre ⟨T.setVm vm₁, locs, cells, slots⟩ (Value.ref b :: argsL).toArray) :
    ∃ (v : Option Value) (vm₁ : Vm) (B : Pt), s.WarmedH vm₁ ∧ Stand p l e R s m args below meth c B.U B.locs B.cells B.slots ∧ Post ⟨T.setVm vm₁, locs, cells, slots⟩ (Value.ref b :: argsL).toArray v B ∧
      ∀ target, Steps p.tables e below (B.U.setTop { g with pc := g.pc + 3, stack := v.toList ++ rest }) target → Steps p.tables e below (T.setTop g) target := by
  obtain ⟨mk, methM, hnamed, hmethM, hstM, habM⟩ := Cond.instanceMethod_spec hinst
  obtain ⟨m8, methM', cM, hn8, hmethM', -, -, -, -, -, -, hsigM⟩ := Cond.codeWith_spec hcode
  cases Option.some.inj (hn8.symm.trans hnamed)
  cases hmethM.symm.trans hmethM'
  obtain ⟨c2, r2, m2, q1, q2, q3, q4, kP, hkP, hkPi⟩ := Cond.selects_spec hsel
  cases hcls.symm.trans q1
  cases (State.methodFound?_of_named hnamed hy).symm.trans q2
  cases hnamed.symm.trans q3
  have hselP : selectMethod e.platform s.vm cellB.cls mk = .method mk := by rw [Launch.admits_selectMethod X.admits]; exact q4
  obtain ⟨vm₁, X₁, hstep₁⟩ := X.invokevirtual hexec hown hlink hnamed hmethM hstM hkP hkPi hy (a := b) (cell := cellB) hcell
    (fun z h => by rw [h] at hobj; cases hobj) hselP hmethM habM hkP hkPi (g := g) hg (argsL := argsL) (rest := rest) (hlen _ hsigM) hstack hdg
  obtain ⟨v, B, X', hpost, hsteps⟩ := hK m meth c ⟨T.setVm vm₁, locs, cells, slots⟩ { g with stack := rest } (.invokevirtual index) mk (Value.ref b :: argsL).toArray X₁ hg hsize hdg hW (X₁.named hnamed) (hpre vm₁ X₁.warmed)
  exact ⟨v, vm₁, B, X₁.warmed, X', hpost, fun target h => hstep₁ _ fun acts => by rw [doInvoke_state]; exact hsteps.trans h⟩
abbrev vx_CVW (R : Room) (s : State) (args : Array Value) (own C : String) (index : Nat) (y : MethodName) (bytes : ByteArray) (maxL : Nat) (ret : Option FieldType) (hh : List (Nat × Nat × Nat × Nat)) (ws : List Cond) (rm : Room) (mc ms n : Nat) : Prop :=
  (rm.cells = mc ∧ rm.slots = ms ∧ rm.frames + 1 ≤ R.frames ∧ 8 + (maxL + 11) + rm.locals ≤ R.locals ∧ (∀ w ∈ ws, ∀ (a' : Array Value) (U : State), s.WarmedH U.vm → w.before a' U = true) ∧ Cond.codeWith y bytes maxL ret hh ∈ ws) ∧
  (Cond.codeWith y bytes maxL ret hh).before args s = true ∧ (Cond.initialized y.cls).before args s = true ∧ (y.cls ≠ "java/lang/invoke/MethodHandle" ∧ y.cls ≠ "java/lang/invoke/VarHandle") ∧
  (∀ sig, parseMethodDescriptor y.desc = some sig → n = sig.parameters.length) ∧ (Cond.methodLink own index y).before args s = true ∧ (Cond.instanceMethod y).before args s = true ∧ (Cond.selects C y y).before args s = true
theorem vx_cwVW {own C : String} {index maxL mc ms : Nat} {y : MethodName} {bytes : ByteArray} {ret : Option FieldType} {hh : List (Nat × Nat × Nat × Nat)} {Ts ws ws' : List Cond} {rm : Room} (n : Nat) (ht : ∀ w ∈ Ts, w.before args s = true) (hT : GoodIn Ts (wsV own index C y ws)) (hw : ws = Cond.codeWith y bytes maxL ret hh :: ws') (hrc : rm.cells = mc) (hrs : rm.slots = ms)
    (hd : y.cls = C ∧ y.cls ≠ "java/lang/invoke/MethodHandle" ∧ y.cls ≠ "java/lang/invoke/VarHandle" ∧ (parseMethodDescriptor y.desc).map (fun d => d.parameters.length) = some n) (hR : rm.frames + 1 ≤ R.frames ∧ 8 + (maxL + 11) + rm.locals ≤ R.locals) :
    vx_CVW R s args own C index y bytes maxL ret hh ws rm mc ms n := by
  obtain ⟨hC, hd⟩ := hd
  subst hC
  have ok : ∀ w ∈ wsV own index y.cls y ws, w.before args s = true := fun w h => ht w (hT w h).1
  have hG : GoodIn Ts ws := fun w h => hT w (by unfold wsV; exact List.mem_append_right _ h)
  have hc : Cond.codeWith y bytes maxL ret hh ∈ ws := by rw [hw]; exact List.mem_cons_self
  refine ⟨⟨hrc, hrs, hR.1, hR.2, pay_in ht hG, hc⟩, ht _ (hG _ hc).1, ok _ (by simp [wsV]), ⟨hd.1, hd.2.1⟩, fun sig h => ?_, ok _ (by simp [wsV]), ok _ (by simp [wsV]), ok _ (by simp [wsV])⟩
  have h2 := hd.2.2
  rw [h] at h2
  exact (Option.some.inj h2).symm
theorem vx_runVW {y : MethodName} {bytes cc : ByteArray} {maxL nL mc ms n index : Nat} {ret : Option FieldType} {hh : List (Nat × Nat × Nat × Nat)} {ws : List Cond} {rm : Room} {Pc : Array Value → State → Prop} {Qc : Array Value → State → Outcome → State → Prop} {free : Addr → Prop} {Ts : List Cond} {own C : String} {b : Addr} {As rest : List Value} {g : JFrame}
    (S : CallFix p m c cc nL s args Ts own) (hM : Met l y ws rm Pc Qc mc ms free) (cw : vx_CVW R s args own C index y bytes maxL ret hh ws rm mc ms n) (hp : PreV s H C b Pc As)
    (hg : g.method = m) (hn : As.length = n) (hsize : g.locals.size = nL) (hstack : g.stack = As.reverse ++ .ref b :: rest) (hW : 2 * g.monitorRoom + (rest.map fun v => v.category).sum ≤ 8) (hdg : decode cc g.pc = .ok (.invokevirtual index, 3)) (hf : cells + mc ≤ R.cells ∧ slots + ms ≤ R.slots) :
    va_Run p l e R s m args below meth c H locs cells slots mc ms g rest (Qc (Value.ref b :: As).toArray) free := by
  obtain ⟨⟨hrc, hrs, hfr, hlo, hws, hcw⟩, hcode, hini, hy, hlen, hl, hin, hse⟩ := cw
  have hK : Back l R p e below s args y 3 8 (PreOf R mc ms Pc) (PostOf Qc mc ms free) := va_backW (hh := hh) (bytes := bytes) (maxL := maxL) (ret := ret) hM hp.1 hrc hrs hfr hlo hws hcw (fun a' U hW => word_at hW (Or.inl (by first | rfl | simp [Cond.onTables, Cond.keeps, Cond.steady])) hini)
  obtain ⟨hx, hb, hml, ho, -⟩ := S
  obtain ⟨-, ⟨cellB, hcB, hoB, hclB⟩, hPc⟩ := hp
  intro T hT X
  obtain ⟨v, vm₁, ⟨U', l2, c2, s2⟩, hW₁, X', ⟨g', mk, t, L, e1, e2, hq, h1, hL, h2, h3⟩, st⟩ := vx_callVW X hx (C := C) (hh := hh) (bytes := bytes) (maxL := maxL) (ret := ret) ho hl hin hse hcode hy hK (by rw [hT]; exact hcB) hoB hclB hg (hsize.trans hml.symm) (argsL := As) (rest := rest) (fun sig h => hn.trans (hlen sig h)) hstack hW (by rw [hb]; exact hdg)
    (fun vm₁ hW₁ => ⟨hf.1, hf.2, hPc (T.setVm vm₁) hT hW₁⟩)
  dsimp only [Pt.U, Pt.locs, Pt.cells, Pt.slots] at X' e1 e2 h1 h2 h3 st
  subst h1; subst h2; subst h3
  exact ⟨v, (T.setVm vm₁).calling g' mk (Value.ref b :: As).toArray, t, U', L, hT, X', hL, e1, e2, hq, st⟩
section
variable {y : MethodName} {bytes cc : ByteArray} {maxL nL mc ms n index : Nat} {ret : Option FieldType} {ws : List Cond} {rm : Room} {Pc : Array Value → State → Prop} {Qc : Array Value → State → Outcome → State → Prop} {XC : String → State → State → Prop} {free : Addr → Prop} {Ts : List Cond} {own C : String} {b : Addr} {As rest : List Value} {g : JFrame}
theorem vx_runVX {hh : List (Nat × Nat × Nat × Nat)} (S : CallFix p m c cc nL s args Ts own) (hM : vx_Met l y ws rm Pc Qc XC mc ms free) (cw : vx_CVW R s args own C index y bytes maxL ret hh ws rm mc ms n) (hp : PreV s H C b Pc As)
    (hg : g.method = m) (hn : As.length = n) (hsize : g.locals.size = nL) (hstack : g.stack = As.reverse ++ .ref b :: rest) (hW : 2 * g.monitorRoom + (rest.map fun v => v.category).sum ≤ 8) (hdg : decode cc g.pc = .ok (.invokevirtual index, 3)) (hf : cells + mc ≤ R.cells ∧ slots + ms ≤ R.slots) :
    vx_Run p l e R s m args below meth c H locs cells slots mc ms g rest (Qc (Value.ref b :: As).toArray) XC free := by
  obtain ⟨⟨hrc, hrs, hfr, hlo, hws, hcw⟩, hcode, hini, hy, hlen, hl, hin, hse⟩ := cw
  have hK : vx_Back l R p e below s args y 3 8 (PreOf R mc ms Pc) (PostOf Qc mc ms free) (vx_Post XC mc ms free) := vx_backW (hh := hh) (bytes := bytes) (maxL := maxL) (ret := ret) hM hp.1 hrc hrs hfr hlo hws hcw (fun a' U hW => word_at hW (Or.inl (by first | rfl | simp [Cond.onTables, Cond.keeps, Cond.steady])) hini)
  obtain ⟨hx, hb, hml, ho, -⟩ := S
  obtain ⟨-, ⟨cellB, hcB, hoB, hclB⟩, hPc⟩ := hp
  intro T hT X
  rcases vx_callVX X hx (C := C) (hh := hh) (bytes := bytes) (maxL := maxL) (ret := ret) ho hl hin hse hcode hy hK (by rw [hT]; exact hcB) hoB hclB hg (hsize.trans hml.symm) (argsL := As) (rest := rest) (fun sig h => hn.trans (hlen sig h)) hstack hW (by rw [hb]; exact hdg)
    (fun vm₁ hW₁ => ⟨hf.1, hf.2, hPc (T.setVm vm₁) hT hW₁⟩) with ⟨v, vm₁, ⟨U', l2, c2, s2⟩, hW₁, X', ⟨g', mk, t, L, e1, e2, hq, h1, hL, h2, h3⟩, st⟩ | ⟨q, vm₁, ⟨U', l2, c2, s2⟩, hW₁, X', ⟨g', mk, t, L, E, ce, e1, e2, hq, hce, hcv, hcl, h1, hL, h2, h3⟩, st⟩
  · dsimp only [Pt.U, Pt.locs, Pt.cells, Pt.slots] at X' e1 e2 h1 h2 h3 st
    subst h1; subst h2; subst h3
    exact Or.inl ⟨v, (T.setVm vm₁).calling g' mk (Value.ref b :: As).toArray, t, U', L, hT, X', hL, e1, e2, hq, st⟩
  · dsimp only [Pt.U, Pt.locs, Pt.cells, Pt.slots] at X' e1 e2 h1 h2 h3 st hcl
    subst h1; subst h2; subst h3
    exact Or.inr ⟨q, (T.setVm vm₁).calling g' mk (Value.ref b :: As).toArray, t, U', L, E, ce, hT, X', hL, e1, e2, hq, hce, hcv, vx_cls hW₁ hcl, st⟩
theorem vx_runSX {hh : List (Nat × Nat × Nat × Nat)} (S : CallFix p m c cc nL s args Ts own) (hM : vx_Met l y ws rm Pc Qc XC mc ms free) (cw : vx_CSW R s args own index y bytes maxL ret hh ws rm mc ms n) (hp : PreS s H Pc As)
    (hg : g.method = m) (hn : As.length = n) (hsize : g.locals.size = nL) (hstack : g.stack = As.reverse ++ rest) (hW : 2 * g.monitorRoom + (rest.map fun v => v.category).sum ≤ 8) (hdg : decode cc g.pc = .ok (.invokestatic index, 3)) (hf : cells + mc ≤ R.cells ∧ slots + ms ≤ R.slots) :
    vx_Run p l e R s m args below meth c H locs cells slots mc ms g rest (Qc As.toArray) XC free := by
  obtain ⟨⟨hrc, hrs, hfr, hlo, hws, hcw⟩, hcode, hini, hy, hlen, hl, hstt⟩ := cw
  have hK : vx_Back l R p e below s args y 3 8 (PreOf R mc ms Pc) (PostOf Qc mc ms free) (vx_Post XC mc ms free) := vx_backW (hh := hh) (bytes := bytes) (maxL := maxL) (ret := ret) hM hp.1 hrc hrs hfr hlo hws hcw (fun a' U hW => word_at hW (Or.inl (by first | rfl | simp [Cond.onTables, Cond.keeps, Cond.steady])) hini)
  obtain ⟨hx, hb, hml, ho, -⟩ := S
  intro T hT X
  rcases vx_callSX X hx (hh := hh) (bytes := bytes) (maxL := maxL) (ret := ret) ho hl hstt hini hcode hy hK hg (hsize.trans hml.symm) (argsL := As) (rest := rest) (fun sig h => hn.trans (hlen sig h)) hstack hW (by rw [hb]; exact hdg)
    (fun vm₁ hW₁ => ⟨hf.1, hf.2, hp.2 (T.setVm vm₁) hT hW₁⟩) with ⟨v, vm₁, ⟨U', l2, c2, s2⟩, hW₁, X', ⟨g', mk, t, L, e1, e2, hq, h1, hL, h2, h3⟩, st⟩ | ⟨q, vm₁, ⟨U', l2, c2, s2⟩, hW₁, X', ⟨g', mk, t, L, E, ce, e1, e2, hq, hce, hcv, hcl, h1, hL, h2, h3⟩, st⟩
  · dsimp only [Pt.U, Pt.locs, Pt.cells, Pt.slots] at X' e1 e2 h1 h2 h3 st
    subst h1; subst h2; subst h3
    exact Or.inl ⟨v, (T.setVm vm₁).calling g' mk As.toArray, t, U', L, hT, X', hL, e1, e2, hq, st⟩
  · dsimp only [Pt.U, Pt.locs, Pt.cells, Pt.slots] at X' e1 e2 h1 h2 h3 st hcl
    subst h1; subst h2; subst h3
    exact Or.inr ⟨q, (T.setVm vm₁).calling g' mk As.toArray, t, U', L, E, ce, hT, X', hL, e1, e2, hq, hce, hcv, vx_cls hW₁ hcl, st⟩
end
end VXH
theorem vx_ofWH {l : Launch} {y : MethodName} {ws ws' : List Cond} {rm : Room} {Pc : Array Value → State → Prop} {Qc : Array Value → State → Outcome → State → Prop} {XC : String → State → State → Prop} {mc ms : Nat} {free : Addr → Prop} {cc : ByteArray} {maxL : Nat} {ret : Option FieldType} {hh : List (Nat × Nat × Nat × Nat)}
    (hy : plainName y.cls = true) (hw : ws = Cond.codeWith y cc maxL ret hh :: ws')
    (body : ∀ p e s m args below meth c s₁, BodyLoose p l y (headSpec ws rm) cc maxL ret e s m args below meth c s₁ → c.maxLocals = maxL → Pc args s →
      W p l e (headSpec ws rm).room s m args below meth c s.heap [] 0 0 (vx_MQ below Qc XC args s mc ms free) (entryFrame m args maxL)) : vx_Met l y ws rm Pc Qc XC mc ms free := by
  refine MetFree.of_bodyS (code := cc) (maxLocals := maxL) (ret := ret) hy ?_ ?_
  · intro args s m h hn
    obtain ⟨m9, meth, c, hn9, h1, h2, h3, h4, -, h5, h6, -⟩ := Cond.codeWith_spec (atoms_spec (ws := ws) h _ (by rw [hw]; exact List.mem_cons_self))
    cases hn.symm.trans hn9
    exact ⟨meth, c, h1, h2, h3, h4, h5, h6⟩
  · intro p e s m args below meth c s₁ B hml hP _
    have hh0 : s₁.heap = s.heap := by rw [B.state]; rfl
    obtain ⟨t, a1, o, b1, b2, b3⟩ := body p e s m args below meth c s₁ B hml hP s₁ hh0 (Stand.of_body B)
    exact ⟨t, o, a1, b1, b2, b3⟩
/-! ===== END ===== -/

/-! ===== BEGIN printed: names, fields, word lists, decode rows ===== -/
def RX0 : String := "NineMilesOff$Board"
def TX0 : u_T := fun k => match k with
  | 0 => ("NineMilesOff$Board", "heights", "[I", true)
  | 1 => ("NineMilesOff$Board", "fars", "[I", true)
  | 2 => ("NineMilesOff$Board", "near", "[J", true)
  | 3 => ("NineMilesOff$Board", "fit", "[J", true)
  | 4 => ("NineMilesOff$Board", "come", "[J", true)
  | 5 => ("NineMilesOff$Board", "fresh", "[J", true)
  | 6 => ("NineMilesOff$Board", "days", "[I", true)
  | 7 => ("NineMilesOff$Board", "walks", "[J", true)
  | _ => ("NineMilesOff$Board", "half", "[J", true)
def tyX0 : Nat → FieldType := fun k => match k with
  | 0 => .array .int
  | 1 => .array .int
  | 2 => .array .long
  | 3 => .array .long
  | 4 => .array .long
  | 5 => .array .long
  | 6 => .array .int
  | 7 => .array .long
  | _ => .array .long
abbrev wsX00 : List Cond := u_ws RX0 TX0 9
theorem nmX0 : ∀ a, a < 9 → ∀ b, b < 9 → a ≠ b → (TX0 a).2.1 ≠ (TX0 b).2.1 := by decide +kernel
theorem tyX0_ok : ∀ k, k < 9 → parseFieldDescriptor (TX0 k).2.2.1 = some (tyX0 k) := by decide +kernel
abbrev cX0_init : ByteArray := prog_2_method_1_code
def yX0_init : MethodName := ⟨RX0, "<init>", "()V"⟩
abbrev cX0_lay : ByteArray := prog_2_method_2_code
def yX0_lay : MethodName := ⟨RX0, "lay", "(LNineMilesOff$Land;)V"⟩
abbrev cX0_bound : ByteArray := prog_2_method_3_code
def yX0_bound : MethodName := ⟨RX0, "bound", "(II)V"⟩
abbrev cX0_admit : ByteArray := prog_2_method_4_code
def yX0_admit : MethodName := ⟨RX0, "admit", "(J)V"⟩
abbrev cX0_nearOf : ByteArray := prog_2_method_5_code
def yX0_nearOf : MethodName := ⟨RX0, "nearOf", "(I)J"⟩
abbrev cX0_isPair : ByteArray := prog_2_method_6_code
def yX0_isPair : MethodName := ⟨RX0, "isPair", "(II)Z"⟩
abbrev cX0_pairsInAll : ByteArray := prog_2_method_7_code
def yX0_pairsInAll : MethodName := ⟨RX0, "pairsInAll", "()I"⟩
abbrev cX0_bitsOf : ByteArray := prog_2_method_8_code
def yX0_bitsOf : MethodName := ⟨RX0, "bitsOf", "([J)I"⟩
abbrev cX0_pairAt : ByteArray := prog_2_method_9_code
def yX0_pairAt : MethodName := ⟨RX0, "pairAt", "(I)I"⟩
abbrev cX0_farsInAll : ByteArray := prog_2_method_10_code
def yX0_farsInAll : MethodName := ⟨RX0, "farsInAll", "()J"⟩
abbrev cX0_start : ByteArray := prog_2_method_11_code
def yX0_start : MethodName := ⟨RX0, "start", "(II)V"⟩
abbrev cX0_spreadOn : ByteArray := prog_2_method_12_code
def yX0_spreadOn : MethodName := ⟨RX0, "spreadOn", "(I)Z"⟩
abbrev cX0_comeAround : ByteArray := prog_2_method_13_code
def yX0_comeAround : MethodName := ⟨RX0, "comeAround", "(I)J"⟩
abbrev cX0_mark : ByteArray := prog_2_method_14_code
def yX0_mark : MethodName := ⟨RX0, "mark", "(IJI)V"⟩
abbrev cX0_daysBetween : ByteArray := prog_2_method_15_code
def yX0_daysBetween : MethodName := ⟨RX0, "daysBetween", "(IIII)I"⟩
abbrev cX0_daysLeft : ByteArray := prog_2_method_16_code
def yX0_daysLeft : MethodName := ⟨RX0, "daysLeft", "(II)I"⟩
abbrev cX0_pairOnWay : ByteArray := prog_2_method_17_code
def yX0_pairOnWay : MethodName := ⟨RX0, "pairOnWay", "(III)I"⟩
abbrev cX0_nextPair : ByteArray := prog_2_method_18_code
def yX0_nextPair : MethodName := ⟨RX0, "nextPair", "(II)I"⟩
abbrev cX0_pairsWithin : ByteArray := prog_2_method_19_code
def yX0_pairsWithin : MethodName := ⟨RX0, "pairsWithin", "(III)I"⟩
abbrev cX0_walk : ByteArray := prog_2_method_20_code
def yX0_walk : MethodName := ⟨RX0, "walk", "(III)V"⟩
abbrev cX0_walkHim : ByteArray := prog_2_method_21_code
def yX0_walkHim : MethodName := ⟨RX0, "walkHim", "()V"⟩
abbrev cX0_walkHer : ByteArray := prog_2_method_22_code
def yX0_walkHer : MethodName := ⟨RX0, "walkHer", "()V"⟩
abbrev cX0_walksTo : ByteArray := prog_2_method_23_code
def yX0_walksTo : MethodName := ⟨RX0, "walksTo", "(II)J"⟩
abbrev cX0_walksInAll : ByteArray := prog_2_method_24_code
def yX0_walksInAll : MethodName := ⟨RX0, "walksInAll", "()J"⟩
def RX1 : String := "NineMilesOff$Fraction"
def TX1 : u_T := fun k => match k with
  | _ => ("", "", "", false)
def tyX1 : Nat → FieldType := fun k => match k with
  | _ => .int
abbrev wsX10 : List Cond := u_ws RX1 TX1 0
theorem nmX1 : ∀ a, a < 0 → ∀ b, b < 0 → a ≠ b → (TX1 a).2.1 ≠ (TX1 b).2.1 := by decide +kernel
theorem tyX1_ok : ∀ k, k < 0 → parseFieldDescriptor (TX1 k).2.2.1 = some (tyX1 k) := by decide +kernel
abbrev cX1_partOf : ByteArray := prog_3_method_2_code
def yX1_partOf : MethodName := ⟨RX1, "partOf", "(JJI)J"⟩
abbrev cX1_commonDivisor : ByteArray := prog_3_method_3_code
def yX1_commonDivisor : MethodName := ⟨RX1, "commonDivisor", "(JJ)J"⟩
def RX2 : String := "NineMilesOff$Kinds"
def TX2 : u_T := fun k => match k with
  | _ => ("", "", "", false)
def tyX2 : Nat → FieldType := fun k => match k with
  | _ => .int
abbrev wsX20 : List Cond := u_ws RX2 TX2 0
theorem nmX2 : ∀ a, a < 0 → ∀ b, b < 0 → a ≠ b → (TX2 a).2.1 ≠ (TX2 b).2.1 := by decide +kernel
theorem tyX2_ok : ∀ k, k < 0 → parseFieldDescriptor (TX2 k).2.2.1 = some (tyX2 k) := by decide +kernel
abbrev cX2_isKind : ByteArray := prog_4_method_2_code
def yX2_isKind : MethodName := ⟨RX2, "isKind", "(I)Z"⟩
abbrev cX2_heightOf : ByteArray := prog_4_method_3_code
def yX2_heightOf : MethodName := ⟨RX2, "heightOf", "(II)I"⟩
abbrev cX2_isOpen : ByteArray := prog_4_method_4_code
def yX2_isOpen : MethodName := ⟨RX2, "isOpen", "(III)Z"⟩
abbrev cX2_chanceOf : ByteArray := prog_4_method_5_code
def yX2_chanceOf : MethodName := ⟨RX2, "chanceOf", "(II)I"⟩
abbrev cX2_costOf : ByteArray := prog_4_method_6_code
def yX2_costOf : MethodName := ⟨RX2, "costOf", "(II)I"⟩
abbrev cX2_fail : ByteArray := prog_4_method_7_code
def yX2_fail : MethodName := ⟨RX2, "fail", "(II)V"⟩
def RX3 : String := "NineMilesOff$Land"
def TX3 : u_T := fun k => match k with
  | 0 => ("NineMilesOff$Land", "kinds", "[I", true)
  | 1 => ("NineMilesOff$Land", "figures", "[I", true)
  | 2 => ("NineMilesOff$Land", "winter", "I", false)
  | 3 => ("NineMilesOff$Land", "nearest", "I", false)
  | 4 => ("NineMilesOff$Land", "farthest", "I", false)
  | 5 => ("NineMilesOff$Land", "his", "I", false)
  | 6 => ("NineMilesOff$Land", "hers", "I", false)
  | 7 => ("NineMilesOff$Land", "day", "I", false)
  | 8 => ("NineMilesOff$Land", "stopped", "I", false)
  | _ => ("NineMilesOff$Land", "pain", "I", false)
def tyX3 : Nat → FieldType := fun k => match k with
  | 0 => .array .int
  | 1 => .array .int
  | 2 => .int
  | 3 => .int
  | 4 => .int
  | 5 => .int
  | 6 => .int
  | 7 => .int
  | 8 => .int
  | _ => .int
abbrev wsX30 : List Cond := u_ws RX3 TX3 10
theorem nmX3 : ∀ a, a < 10 → ∀ b, b < 10 → a ≠ b → (TX3 a).2.1 ≠ (TX3 b).2.1 := by decide +kernel
theorem tyX3_ok : ∀ k, k < 10 → parseFieldDescriptor (TX3 k).2.2.1 = some (tyX3 k) := by decide +kernel
abbrev cX3_init : ByteArray := prog_5_method_1_code
def yX3_init : MethodName := ⟨RX3, "<init>", "()V"⟩
abbrev cX3_becomes : ByteArray := prog_5_method_2_code
def yX3_becomes : MethodName := ⟨RX3, "becomes", "(LNineMilesOff$Land;)V"⟩
abbrev cX3_kindAt : ByteArray := prog_5_method_3_code
def yX3_kindAt : MethodName := ⟨RX3, "kindAt", "(I)I"⟩
abbrev cX3_figureAt : ByteArray := prog_5_method_4_code
def yX3_figureAt : MethodName := ⟨RX3, "figureAt", "(I)I"⟩
abbrev cX3_heightAt : ByteArray := prog_5_method_5_code
def yX3_heightAt : MethodName := ⟨RX3, "heightAt", "(I)I"⟩
abbrev cX3_isOpen : ByteArray := prog_5_method_6_code
def yX3_isOpen : MethodName := ⟨RX3, "isOpen", "(I)Z"⟩
abbrev cX3_chanceAt : ByteArray := prog_5_method_7_code
def yX3_chanceAt : MethodName := ⟨RX3, "chanceAt", "(I)I"⟩
abbrev cX3_openCells : ByteArray := prog_5_method_8_code
def yX3_openCells : MethodName := ⟨RX3, "openCells", "()J"⟩
abbrev cX3_sureCells : ByteArray := prog_5_method_9_code
def yX3_sureCells : MethodName := ⟨RX3, "sureCells", "()J"⟩
abbrev cX3_unsureCells : ByteArray := prog_5_method_10_code
def yX3_unsureCells : MethodName := ⟨RX3, "unsureCells", "()J"⟩
abbrev cX3_bothStand : ByteArray := prog_5_method_11_code
def yX3_bothStand : MethodName := ⟨RX3, "bothStand", "()Z"⟩
abbrev cX3_farBetween : ByteArray := prog_5_method_12_code
def yX3_farBetween : MethodName := ⟨RX3, "farBetween", "(II)I"⟩
abbrev cX3_layAt : ByteArray := prog_5_method_13_code
def yX3_layAt : MethodName := ⟨RX3, "layAt", "(III)V"⟩
abbrev cX3_place : ByteArray := prog_5_method_14_code
def yX3_place : MethodName := ⟨RX3, "place", "(II)V"⟩
abbrev cX3_cellBy : ByteArray := prog_5_method_15_code
def yX3_cellBy : MethodName := ⟨RX3, "cellBy", "(II)I"⟩
abbrev cX3_cellByOrStay : ByteArray := prog_5_method_16_code
def yX3_cellByOrStay : MethodName := ⟨RX3, "cellByOrStay", "(II)I"⟩
abbrev cX3_goDay : ByteArray := prog_5_method_17_code
def yX3_goDay : MethodName := ⟨RX3, "goDay", "(II)Z"⟩
abbrev cX3_endDay : ByteArray := prog_5_method_18_code
def yX3_endDay : MethodName := ⟨RX3, "endDay", "(II)V"⟩
def RX4 : String := "NineMilesOff$Play"
def TX4 : u_T := fun k => match k with
  | _ => ("NineMilesOff$Play", "fars", "[I", true)
def tyX4 : Nat → FieldType := fun k => match k with
  | _ => .array .int
abbrev wsX40 : List Cond := u_ws RX4 TX4 1
theorem nmX4 : ∀ a, a < 1 → ∀ b, b < 1 → a ≠ b → (TX4 a).2.1 ≠ (TX4 b).2.1 := by decide +kernel
theorem tyX4_ok : ∀ k, k < 1 → parseFieldDescriptor (TX4 k).2.2.1 = some (tyX4 k) := by decide +kernel
abbrev cX4_init : ByteArray := prog_6_method_1_code
def yX4_init : MethodName := ⟨RX4, "<init>", "()V"⟩
abbrev cX4_lay : ByteArray := prog_6_method_2_code
def yX4_lay : MethodName := ⟨RX4, "lay", "(LNineMilesOff$Land;)V"⟩
abbrev cX4_farOf : ByteArray := prog_6_method_3_code
def yX4_farOf : MethodName := ⟨RX4, "farOf", "(II)I"⟩
abbrev cX4_firstHeld : ByteArray := prog_6_method_4_code
def yX4_firstHeld : MethodName := ⟨RX4, "firstHeld", "()I"⟩
abbrev cX4_isHeld : ByteArray := prog_6_method_5_code
def yX4_isHeld : MethodName := ⟨RX4, "isHeld", "(II)Z"⟩
abbrev cX4_leastSure : ByteArray := prog_6_method_6_code
def yX4_leastSure : MethodName := ⟨RX4, "leastSure", "()I"⟩
abbrev cX4_worstOf : ByteArray := prog_6_method_7_code
def yX4_worstOf : MethodName := ⟨RX4, "worstOf", "(I)I"⟩
def RX5 : String := "NineMilesOff$Shelf"
def TX5 : u_T := fun k => match k with
  | 0 => ("NineMilesOff$Shelf", "holds", "I", false)
  | 1 => ("NineMilesOff$Shelf", "kind", "I", false)
  | 2 => ("NineMilesOff$Shelf", "figure", "I", false)
  | 3 => ("NineMilesOff$Shelf", "sort", "I", false)
  | 4 => ("NineMilesOff$Shelf", "size", "I", false)
  | _ => ("NineMilesOff$Shelf", "numbers", "[J", true)
def tyX5 : Nat → FieldType := fun k => match k with
  | 0 => .int
  | 1 => .int
  | 2 => .int
  | 3 => .int
  | 4 => .int
  | _ => .array .long
abbrev wsX50 : List Cond := u_ws RX5 TX5 6
theorem nmX5 : ∀ a, a < 6 → ∀ b, b < 6 → a ≠ b → (TX5 a).2.1 ≠ (TX5 b).2.1 := by decide +kernel
theorem tyX5_ok : ∀ k, k < 6 → parseFieldDescriptor (TX5 k).2.2.1 = some (tyX5 k) := by decide +kernel
abbrev cX5_init : ByteArray := prog_7_method_1_code
def yX5_init : MethodName := ⟨RX5, "<init>", "()V"⟩
abbrev cX5_takeGround : ByteArray := prog_7_method_2_code
def yX5_takeGround : MethodName := ⟨RX5, "takeGround", "(II)V"⟩
abbrev cX5_takeRow : ByteArray := prog_7_method_3_code
def yX5_takeRow : MethodName := ⟨RX5, "takeRow", "(II)V"⟩
abbrev cX5_hasPlace : ByteArray := prog_7_method_4_code
def yX5_hasPlace : MethodName := ⟨RX5, "hasPlace", "(I)Z"⟩
abbrev cX5_hasPlaces : ByteArray := prog_7_method_5_code
def yX5_hasPlaces : MethodName := ⟨RX5, "hasPlaces", "(II)Z"⟩
abbrev cX5_numberAt : ByteArray := prog_7_method_6_code
def yX5_numberAt : MethodName := ⟨RX5, "numberAt", "(I)J"⟩
abbrev cX5_write : ByteArray := prog_7_method_7_code
def yX5_write : MethodName := ⟨RX5, "write", "(II)V"⟩
abbrev cX5_leastNumber : ByteArray := prog_7_method_8_code
def yX5_leastNumber : MethodName := ⟨RX5, "leastNumber", "()J"⟩
def RX6 : String := "NineMilesOff$Snow"
def TX6 : u_T := fun k => match k with
  | _ => ("", "", "", false)
def tyX6 : Nat → FieldType := fun k => match k with
  | _ => .int
abbrev wsX60 : List Cond := u_ws RX6 TX6 0
theorem nmX6 : ∀ a, a < 0 → ∀ b, b < 0 → a ≠ b → (TX6 a).2.1 ≠ (TX6 b).2.1 := by decide +kernel
theorem tyX6_ok : ∀ k, k < 0 → parseFieldDescriptor (TX6 k).2.2.1 = some (tyX6 k) := by decide +kernel
abbrev cX6_likely : ByteArray := prog_8_method_2_code
def yX6_likely : MethodName := ⟨RX6, "likely", "(LNineMilesOff$Land;II)J"⟩
abbrev cX6_passableOf : ByteArray := prog_8_method_3_code
def yX6_passableOf : MethodName := ⟨RX6, "passableOf", "(JI)J"⟩
abbrev cX6_weightOf : ByteArray := prog_8_method_4_code
def yX6_weightOf : MethodName := ⟨RX6, "weightOf", "(LNineMilesOff$Land;JJ)J"⟩
def RX7 : String := "NineMilesOff$Square"
def TX7 : u_T := fun k => match k with
  | _ => ("", "", "", false)
def tyX7 : Nat → FieldType := fun k => match k with
  | _ => .int
abbrev wsX70 : List Cond := u_ws RX7 TX7 0
theorem nmX7 : ∀ a, a < 0 → ∀ b, b < 0 → a ≠ b → (TX7 a).2.1 ≠ (TX7 b).2.1 := by decide +kernel
theorem tyX7_ok : ∀ k, k < 0 → parseFieldDescriptor (TX7 k).2.2.1 = some (tyX7 k) := by decide +kernel
abbrev cX7_bit : ByteArray := prog_9_method_2_code
def yX7_bit : MethodName := ⟨RX7, "bit", "(I)J"⟩
abbrev cX7_has : ByteArray := prog_9_method_3_code
def yX7_has : MethodName := ⟨RX7, "has", "(JI)Z"⟩
abbrev cX7_leastOf : ByteArray := prog_9_method_4_code
def yX7_leastOf : MethodName := ⟨RX7, "leastOf", "(J)I"⟩
abbrev cX7_apart : ByteArray := prog_9_method_5_code
def yX7_apart : MethodName := ⟨RX7, "apart", "(II)I"⟩
abbrev cX7_cellTo : ByteArray := prog_9_method_6_code
def yX7_cellTo : MethodName := ⟨RX7, "cellTo", "(II)I"⟩
abbrev cX7_spread : ByteArray := prog_9_method_7_code
def yX7_spread : MethodName := ⟨RX7, "spread", "(J)J"⟩
abbrev cX7_cellsWithin : ByteArray := prog_9_method_8_code
def yX7_cellsWithin : MethodName := ⟨RX7, "cellsWithin", "(IIJ)J"⟩
abbrev cX7_islandOf : ByteArray := prog_9_method_9_code
def yX7_islandOf : MethodName := ⟨RX7, "islandOf", "(IJ)J"⟩
abbrev cX7_islandsOf : ByteArray := prog_9_method_10_code
def yX7_islandsOf : MethodName := ⟨RX7, "islandsOf", "(J)I"⟩
abbrev cX7_largestIsland : ByteArray := prog_9_method_11_code
def yX7_largestIsland : MethodName := ⟨RX7, "largestIsland", "(J)J"⟩
abbrev cX7_stepsBetween : ByteArray := prog_9_method_12_code
def yX7_stepsBetween : MethodName := ⟨RX7, "stepsBetween", "(IIJ)I"⟩
abbrev cX7_greatestSteps : ByteArray := prog_9_method_13_code
def yX7_greatestSteps : MethodName := ⟨RX7, "greatestSteps", "(IJ)I"⟩
abbrev cX7_middleOf : ByteArray := prog_9_method_14_code
def yX7_middleOf : MethodName := ⟨RX7, "middleOf", "(J)I"⟩
def RX8 : String := "NineMilesOff$Text"
def TX8 : u_T := fun k => match k with
  | _ => ("", "", "", false)
def tyX8 : Nat → FieldType := fun k => match k with
  | _ => .int
abbrev wsX80 : List Cond := u_ws RX8 TX8 0
theorem nmX8 : ∀ a, a < 0 → ∀ b, b < 0 → a ≠ b → (TX8 a).2.1 ≠ (TX8 b).2.1 := by decide +kernel
theorem tyX8_ok : ∀ k, k < 0 → parseFieldDescriptor (TX8 k).2.2.1 = some (tyX8 k) := by decide +kernel
abbrev cX8_digitsBehind : ByteArray := prog_10_method_2_code
def yX8_digitsBehind : MethodName := ⟨RX8, "digitsBehind", "(J)I"⟩
abbrev cX8_firstWrongByte : ByteArray := prog_10_method_3_code
def yX8_firstWrongByte : MethodName := ⟨RX8, "firstWrongByte", "(LNineMilesOff$Shelf;)I"⟩
abbrev cX8_statementsOf : ByteArray := prog_10_method_4_code
def yX8_statementsOf : MethodName := ⟨RX8, "statementsOf", "(LNineMilesOff$Shelf;)I"⟩
abbrev cX8_firstNotDone : ByteArray := prog_10_method_5_code
def yX8_firstNotDone : MethodName := ⟨RX8, "firstNotDone", "(LNineMilesOff$Shelf;LNineMilesOff$Land;)I"⟩
abbrev cX8_digitAt : ByteArray := prog_10_method_6_code
def yX8_digitAt : MethodName := ⟨RX8, "digitAt", "(LNineMilesOff$Shelf;I)I"⟩
abbrev cX8_twoDigitsAt : ByteArray := prog_10_method_7_code
def yX8_twoDigitsAt : MethodName := ⟨RX8, "twoDigitsAt", "(LNineMilesOff$Shelf;I)I"⟩
abbrev cX8_isDone : ByteArray := prog_10_method_8_code
def yX8_isDone : MethodName := ⟨RX8, "isDone", "(LNineMilesOff$Shelf;ILNineMilesOff$Land;)Z"⟩
abbrev cX8_isLaid : ByteArray := prog_10_method_9_code
def yX8_isLaid : MethodName := ⟨RX8, "isLaid", "(LNineMilesOff$Shelf;ILNineMilesOff$Land;)Z"⟩
abbrev cX8_isPlaced : ByteArray := prog_10_method_10_code
def yX8_isPlaced : MethodName := ⟨RX8, "isPlaced", "(IILNineMilesOff$Land;)Z"⟩
abbrev cX8_isBound : ByteArray := prog_10_method_11_code
def yX8_isBound : MethodName := ⟨RX8, "isBound", "(LNineMilesOff$Shelf;ILNineMilesOff$Land;)Z"⟩
abbrev cX8_isWintered : ByteArray := prog_10_method_12_code
def yX8_isWintered : MethodName := ⟨RX8, "isWintered", "(ILNineMilesOff$Land;)Z"⟩
def RX9 : String := "NineMilesOff$Track"
def TX9 : u_T := fun k => match k with
  | 0 => ("NineMilesOff$Track", "hers", "[J", true)
  | 1 => ("NineMilesOff$Track", "left", "[J", true)
  | _ => ("NineMilesOff$Track", "leftThen", "[J", true)
def tyX9 : Nat → FieldType := fun k => match k with
  | 0 => .array .long
  | 1 => .array .long
  | _ => .array .long
abbrev wsX90 : List Cond := u_ws RX9 TX9 3
theorem nmX9 : ∀ a, a < 3 → ∀ b, b < 3 → a ≠ b → (TX9 a).2.1 ≠ (TX9 b).2.1 := by decide +kernel
theorem tyX9_ok : ∀ k, k < 3 → parseFieldDescriptor (TX9 k).2.2.1 = some (tyX9 k) := by decide +kernel
abbrev cX9_init : ByteArray := prog_11_method_1_code
def yX9_init : MethodName := ⟨RX9, "<init>", "()V"⟩
abbrev cX9_isOfCells : ByteArray := prog_11_method_2_code
def yX9_isOfCells : MethodName := ⟨RX9, "isOfCells", "(LNineMilesOff$Shelf;)Z"⟩
abbrev cX9_firstWrongPlace : ByteArray := prog_11_method_3_code
def yX9_firstWrongPlace : MethodName := ⟨RX9, "firstWrongPlace", "(LNineMilesOff$Shelf;LNineMilesOff$Land;)I"⟩
abbrev cX9_fitOn : ByteArray := prog_11_method_4_code
def yX9_fitOn : MethodName := ⟨RX9, "fitOn", "(LNineMilesOff$Shelf;ILNineMilesOff$Board;J)J"⟩
abbrev cX9_follow : ByteArray := prog_11_method_5_code
def yX9_follow : MethodName := ⟨RX9, "follow", "(LNineMilesOff$Shelf;LNineMilesOff$Board;J)J"⟩
abbrev cX9_bestDay : ByteArray := prog_11_method_6_code
def yX9_bestDay : MethodName := ⟨RX9, "bestDay", "(LNineMilesOff$Shelf;LNineMilesOff$Board;J)I"⟩
abbrev cX9_leftAround : ByteArray := prog_11_method_7_code
def yX9_leftAround : MethodName := ⟨RX9, "leftAround", "(I)J"⟩
abbrev cX9_worstOf : ByteArray := prog_11_method_8_code
def yX9_worstOf : MethodName := ⟨RX9, "worstOf", "(J)I"⟩
def RX10 : String := "NineMilesOff"
def TX10 : u_T := fun k => match k with
  | 0 => ("NineMilesOff", "now", "LNineMilesOff$Land;", true)
  | 1 => ("NineMilesOff", "kept", "LNineMilesOff$Land;", true)
  | 2 => ("NineMilesOff", "trial", "LNineMilesOff$Land;", true)
  | 3 => ("NineMilesOff", "taken", "Z", false)
  | 4 => ("NineMilesOff", "board", "LNineMilesOff$Board;", true)
  | 5 => ("NineMilesOff", "track", "LNineMilesOff$Track;", true)
  | 6 => ("NineMilesOff", "play", "LNineMilesOff$Play;", true)
  | 7 => ("NineMilesOff", "shelves", "[LNineMilesOff$Shelf;", true)
  | _ => ("NineMilesOff", "noShelf", "LNineMilesOff$Shelf;", true)
def tyX10 : Nat → FieldType := fun k => match k with
  | 0 => .object "NineMilesOff$Land"
  | 1 => .object "NineMilesOff$Land"
  | 2 => .object "NineMilesOff$Land"
  | 3 => .boolean
  | 4 => .object "NineMilesOff$Board"
  | 5 => .object "NineMilesOff$Track"
  | 6 => .object "NineMilesOff$Play"
  | 7 => .array (.object "NineMilesOff$Shelf")
  | _ => .object "NineMilesOff$Shelf"
abbrev wsX100 : List Cond := u_ws RX10 TX10 9
theorem nmX10 : ∀ a, a < 9 → ∀ b, b < 9 → a ≠ b → (TX10 a).2.1 ≠ (TX10 b).2.1 := by decide +kernel
theorem tyX10_ok : ∀ k, k < 9 → parseFieldDescriptor (TX10 k).2.2.1 = some (tyX10 k) := by decide +kernel
abbrev cX10_init : ByteArray := prog_1_method_1_code
def yX10_init : MethodName := ⟨RX10, "<init>", "()V"⟩
abbrev cX10_land : ByteArray := prog_1_method_2_code
def yX10_land : MethodName := ⟨RX10, "land", "(I)I"⟩
abbrev cX10_ground : ByteArray := prog_1_method_3_code
def yX10_ground : MethodName := ⟨RX10, "ground", "(II)I"⟩
abbrev cX10_lays : ByteArray := prog_1_method_4_code
def yX10_lays : MethodName := ⟨RX10, "lays", "(II)I"⟩
abbrev cX10_stands : ByteArray := prog_1_method_5_code
def yX10_stands : MethodName := ⟨RX10, "stands", "(II)I"⟩
abbrev cX10_set : ByteArray := prog_1_method_6_code
def yX10_set : MethodName := ⟨RX10, "set", "(II)I"⟩
abbrev cX10_go : ByteArray := prog_1_method_7_code
def yX10_go : MethodName := ⟨RX10, "go", "(II)I"⟩
abbrev cX10_far : ByteArray := prog_1_method_8_code
def yX10_far : MethodName := ⟨RX10, "far", "(II)I"⟩
abbrev cX10_steps : ByteArray := prog_1_method_9_code
def yX10_steps : MethodName := ⟨RX10, "steps", "(II)I"⟩
abbrev cX10_pairs : ByteArray := prog_1_method_10_code
def yX10_pairs : MethodName := ⟨RX10, "pairs", "(I)I"⟩
abbrev cX10_islands : ByteArray := prog_1_method_11_code
def yX10_islands : MethodName := ⟨RX10, "islands", "()I"⟩
abbrev cX10_island : ByteArray := prog_1_method_12_code
def yX10_island : MethodName := ⟨RX10, "island", "(I)I"⟩
abbrev cX10_middle : ByteArray := prog_1_method_13_code
def yX10_middle : MethodName := ⟨RX10, "middle", "(I)I"⟩
abbrev cX10_see : ByteArray := prog_1_method_14_code
def yX10_see : MethodName := ⟨RX10, "see", "(II)I"⟩
abbrev cX10_way : ByteArray := prog_1_method_15_code
def yX10_way : MethodName := ⟨RX10, "way", "(III)I"⟩
abbrev cX10_hinders : ByteArray := prog_1_method_16_code
def yX10_hinders : MethodName := ⟨RX10, "hinders", "(II)I"⟩
abbrev cX10_needs : ByteArray := prog_1_method_17_code
def yX10_needs : MethodName := ⟨RX10, "needs", "(II)I"⟩
abbrev cX10_within : ByteArray := prog_1_method_18_code
def yX10_within : MethodName := ⟨RX10, "within", "(I)I"⟩
abbrev cX10_ways : ByteArray := prog_1_method_19_code
def yX10_ways : MethodName := ⟨RX10, "ways", "(I)J"⟩
abbrev cX10_rounds : ByteArray := prog_1_method_20_code
def yX10_rounds : MethodName := ⟨RX10, "rounds", "(I)J"⟩
abbrev cX10_late : ByteArray := prog_1_method_21_code
def yX10_late : MethodName := ⟨RX10, "late", "(II)I"⟩
abbrev cX10_hisWay : ByteArray := prog_1_method_22_code
def yX10_hisWay : MethodName := ⟨RX10, "hisWay", "(II)J"⟩
abbrev cX10_letter : ByteArray := prog_1_method_23_code
def yX10_letter : MethodName := ⟨RX10, "letter", "(I)I"⟩
abbrev cX10_third : ByteArray := prog_1_method_24_code
def yX10_third : MethodName := ⟨RX10, "third", "(I)I"⟩
abbrev cX10_game : ByteArray := prog_1_method_25_code
def yX10_game : MethodName := ⟨RX10, "game", "(I)I"⟩
abbrev cX10_snow : ByteArray := prog_1_method_26_code
def yX10_snow : MethodName := ⟨RX10, "snow", "(III)J"⟩
abbrev cX10_mean : ByteArray := prog_1_method_27_code
def yX10_mean : MethodName := ⟨RX10, "mean", "(I)J"⟩
abbrev cX10_curve : ByteArray := prog_1_method_28_code
def yX10_curve : MethodName := ⟨RX10, "curve", "(I)I"⟩
abbrev cX10_judge : ByteArray := prog_1_method_29_code
def yX10_judge : MethodName := ⟨RX10, "judge", "(I)I"⟩
abbrev cX10_seeds : ByteArray := prog_1_method_30_code
def yX10_seeds : MethodName := ⟨RX10, "seeds", "(III)I"⟩
abbrev cX10_image : ByteArray := prog_1_method_31_code
def yX10_image : MethodName := ⟨RX10, "image", "()I"⟩
abbrev cX10_restore : ByteArray := prog_1_method_32_code
def yX10_restore : MethodName := ⟨RX10, "restore", "()I"⟩
abbrev cX10_count : ByteArray := prog_1_method_33_code
def yX10_count : MethodName := ⟨RX10, "count", "(I)I"⟩
abbrev cX10_keep : ByteArray := prog_1_method_34_code
def yX10_keep : MethodName := ⟨RX10, "keep", "(IIII)I"⟩
abbrev cX10_row : ByteArray := prog_1_method_35_code
def yX10_row : MethodName := ⟨RX10, "row", "(III)I"⟩
abbrev cX10_put : ByteArray := prog_1_method_36_code
def yX10_put : MethodName := ⟨RX10, "put", "(III)I"⟩
abbrev cX10_element : ByteArray := prog_1_method_37_code
def yX10_element : MethodName := ⟨RX10, "element", "(II)J"⟩
abbrev cX10_copy : ByteArray := prog_1_method_38_code
def yX10_copy : MethodName := ⟨RX10, "copy", "(IIIII)I"⟩
abbrev cX10_cost : ByteArray := prog_1_method_39_code
def yX10_cost : MethodName := ⟨RX10, "cost", "(I)I"⟩
abbrev cX10_toss : ByteArray := prog_1_method_40_code
def yX10_toss : MethodName := ⟨RX10, "toss", "(I)I"⟩
abbrev cX10_isCell : ByteArray := prog_1_method_41_code
def yX10_isCell : MethodName := ⟨RX10, "isCell", "(J)Z"⟩
abbrev cX10_isWay : ByteArray := prog_1_method_42_code
def yX10_isWay : MethodName := ⟨RX10, "isWay", "(I)Z"⟩
abbrev cX10_isEither : ByteArray := prog_1_method_43_code
def yX10_isEither : MethodName := ⟨RX10, "isEither", "(I)Z"⟩
abbrev cX10_isDistance : ByteArray := prog_1_method_44_code
def yX10_isDistance : MethodName := ⟨RX10, "isDistance", "(I)Z"⟩
abbrev cX10_isShelf : ByteArray := prog_1_method_45_code
def yX10_isShelf : MethodName := ⟨RX10, "isShelf", "(I)Z"⟩
abbrev cX10_shelfAt : ByteArray := prog_1_method_46_code
def yX10_shelfAt : MethodName := ⟨RX10, "shelfAt", "(I)LNineMilesOff$Shelf;"⟩
abbrev cX10_refusalOfRow : ByteArray := prog_1_method_47_code
def yX10_refusalOfRow : MethodName := ⟨RX10, "refusalOfRow", "(I)I"⟩
abbrev cX10_refusalOfGround : ByteArray := prog_1_method_48_code
def yX10_refusalOfGround : MethodName := ⟨RX10, "refusalOfGround", "(I)I"⟩
abbrev cX10_refusalUnless : ByteArray := prog_1_method_49_code
def yX10_refusalUnless : MethodName := ⟨RX10, "refusalUnless", "(II)I"⟩
abbrev cX10_refusalOfTrack : ByteArray := prog_1_method_50_code
def yX10_refusalOfTrack : MethodName := ⟨RX10, "refusalOfTrack", "(I)I"⟩
abbrev cX10_refusalToSee : ByteArray := prog_1_method_51_code
def yX10_refusalToSee : MethodName := ⟨RX10, "refusalToSee", "(II)I"⟩
abbrev cX10_refusalToCount : ByteArray := prog_1_method_52_code
def yX10_refusalToCount : MethodName := ⟨RX10, "refusalToCount", "(I)I"⟩
abbrev cX10_ofLongs : ByteArray := prog_1_method_53_code
def yX10_ofLongs : MethodName := ⟨RX10, "ofLongs", "(I)J"⟩
abbrev cX10_nextSeed : ByteArray := prog_1_method_54_code
def yX10_nextSeed : MethodName := ⟨RX10, "nextSeed", "(I)I"⟩
abbrev cX10_drawOf : ByteArray := prog_1_method_55_code
def yX10_drawOf : MethodName := ⟨RX10, "drawOf", "(I)I"⟩
def RX11 : String := "NineMilesOffModel"
def TX11 : u_T := fun k => match k with
  | 0 => ("NineMilesOffModel", "kinds", "[I", true)
  | 1 => ("NineMilesOffModel", "figures", "[I", true)
  | 2 => ("NineMilesOffModel", "winter", "I", false)
  | 3 => ("NineMilesOffModel", "nearest", "I", false)
  | 4 => ("NineMilesOffModel", "farthest", "I", false)
  | 5 => ("NineMilesOffModel", "his", "I", false)
  | 6 => ("NineMilesOffModel", "hers", "I", false)
  | 7 => ("NineMilesOffModel", "day", "I", false)
  | 8 => ("NineMilesOffModel", "stopped", "I", false)
  | 9 => ("NineMilesOffModel", "pain", "I", false)
  | 10 => ("NineMilesOffModel", "holdsWhat", "[I", true)
  | 11 => ("NineMilesOffModel", "keptKind", "[I", true)
  | 12 => ("NineMilesOffModel", "keptFigure", "[I", true)
  | 13 => ("NineMilesOffModel", "rowSort", "[I", true)
  | 14 => ("NineMilesOffModel", "rowMany", "[I", true)
  | 15 => ("NineMilesOffModel", "rows", "[J", true)
  | 16 => ("NineMilesOffModel", "thrown", "I", false)
  | 17 => ("NineMilesOffModel", "thoughtOpen", "I", false)
  | 18 => ("NineMilesOffModel", "reading", "I", false)
  | 19 => ("NineMilesOffModel", "at", "I", false)
  | 20 => ("NineMilesOffModel", "isBad", "Z", false)
  | 21 => ("NineMilesOffModel", "statements", "I", false)
  | 22 => ("NineMilesOffModel", "placeIn", "[I", true)
  | 23 => ("NineMilesOffModel", "letterOf", "[I", true)
  | 24 => ("NineMilesOffModel", "told", "[I", true)
  | 25 => ("NineMilesOffModel", "kept", "[I", true)
  | 26 => ("NineMilesOffModel", "imaged", "[I", true)
  | 27 => ("NineMilesOffModel", "hasImage", "Z", false)
  | 28 => ("NineMilesOffModel", "place0", "I", false)
  | 29 => ("NineMilesOffModel", "isTaking", "Z", false)
  | 30 => ("NineMilesOffModel", "keptIn", "[I", false)
  | 31 => ("NineMilesOffModel", "steps", "[I", true)
  | 32 => ("NineMilesOffModel", "days", "[I", true)
  | 33 => ("NineMilesOffModel", "queue", "[I", true)
  | 34 => ("NineMilesOffModel", "waysTo", "[J", true)
  | 35 => ("NineMilesOffModel", "waysThen", "[J", true)
  | 36 => ("NineMilesOffModel", "unsure", "[I", true)
  | 37 => ("NineMilesOffModel", "seed", "I", false)
  | _ => ("NineMilesOffModel", "between", "[J", true)
def tyX11 : Nat → FieldType := fun k => match k with
  | 0 => .array .int
  | 1 => .array .int
  | 2 => .int
  | 3 => .int
  | 4 => .int
  | 5 => .int
  | 6 => .int
  | 7 => .int
  | 8 => .int
  | 9 => .int
  | 10 => .array .int
  | 11 => .array .int
  | 12 => .array .int
  | 13 => .array .int
  | 14 => .array .int
  | 15 => .array .long
  | 16 => .int
  | 17 => .int
  | 18 => .int
  | 19 => .int
  | 20 => .boolean
  | 21 => .int
  | 22 => .array .int
  | 23 => .array .int
  | 24 => .array .int
  | 25 => .array .int
  | 26 => .array .int
  | 27 => .boolean
  | 28 => .int
  | 29 => .boolean
  | 30 => .array .int
  | 31 => .array .int
  | 32 => .array .int
  | 33 => .array .int
  | 34 => .array .long
  | 35 => .array .long
  | 36 => .array .int
  | 37 => .int
  | _ => .array .long
abbrev wsX110 : List Cond := u_ws RX11 TX11 39
theorem nmX11 : ∀ a, a < 39 → ∀ b, b < 39 → a ≠ b → (TX11 a).2.1 ≠ (TX11 b).2.1 := by decide +kernel
theorem tyX11_ok : ∀ k, k < 39 → parseFieldDescriptor (TX11 k).2.2.1 = some (tyX11 k) := by decide +kernel
abbrev cX11_init : ByteArray := prog_13_method_1_code
def yX11_init : MethodName := ⟨RX11, "<init>", "()V"⟩
abbrev cX11_thrown : ByteArray := prog_13_method_2_code
def yX11_thrown : MethodName := ⟨RX11, "thrown", "()I"⟩
abbrev cX11_in : ByteArray := prog_13_method_3_code
def yX11_in : MethodName := ⟨RX11, "in", "(JJJ)Z"⟩
abbrev cX11_isCell : ByteArray := prog_13_method_4_code
def yX11_isCell : MethodName := ⟨RX11, "isCell", "(J)Z"⟩
abbrev cX11_plainly : ByteArray := prog_13_method_5_code
def yX11_plainly : MethodName := ⟨RX11, "plainly", "(I)I"⟩
abbrev cX11_isOn : ByteArray := prog_13_method_6_code
def yX11_isOn : MethodName := ⟨RX11, "isOn", "(JI)Z"⟩
abbrev cX11_onesOf : ByteArray := prog_13_method_7_code
def yX11_onesOf : MethodName := ⟨RX11, "onesOf", "(J)I"⟩
abbrev cX11_heightOf : ByteArray := prog_13_method_8_code
def yX11_heightOf : MethodName := ⟨RX11, "heightOf", "(I)I"⟩
abbrev cX11_isOpen : ByteArray := prog_13_method_9_code
def yX11_isOpen : MethodName := ⟨RX11, "isOpen", "(I)Z"⟩
abbrev cX11_chanceOf : ByteArray := prog_13_method_10_code
def yX11_chanceOf : MethodName := ⟨RX11, "chanceOf", "(I)I"⟩
abbrev cX11_farOf : ByteArray := prog_13_method_11_code
def yX11_farOf : MethodName := ⟨RX11, "farOf", "(II)I"⟩
abbrev cX11_isOff : ByteArray := prog_13_method_12_code
def yX11_isOff : MethodName := ⟨RX11, "isOff", "(II)Z"⟩
abbrev cX11_beside : ByteArray := prog_13_method_13_code
def yX11_beside : MethodName := ⟨RX11, "beside", "(II)I"⟩
abbrev cX11_goneTo : ByteArray := prog_13_method_14_code
def yX11_goneTo : MethodName := ⟨RX11, "goneTo", "(II)I"⟩
abbrev cX11_openCells : ByteArray := prog_13_method_15_code
def yX11_openCells : MethodName := ⟨RX11, "openCells", "()J"⟩
abbrev cX11_goOn : ByteArray := prog_13_method_16_code
def yX11_goOn : MethodName := ⟨RX11, "goOn", "(J)J"⟩
abbrev cX11_here : ByteArray := prog_13_method_17_code
def yX11_here : MethodName := ⟨RX11, "here", "()I"⟩
abbrev cX11_readDigits : ByteArray := prog_13_method_18_code
def yX11_readDigits : MethodName := ⟨RX11, "readDigits", "(I)I"⟩
abbrev cX11_isLetter : ByteArray := prog_13_method_19_code
def yX11_isLetter : MethodName := ⟨RX11, "isLetter", "(I)Z"⟩
abbrev cX11_readStatement : ByteArray := prog_13_method_20_code
def yX11_readStatement : MethodName := ⟨RX11, "readStatement", "()V"⟩
abbrev cX11_canGo : ByteArray := prog_13_method_21_code
def yX11_canGo : MethodName := ⟨RX11, "canGo", "(II)Z"⟩
abbrev cX11_goBoth : ByteArray := prog_13_method_22_code
def yX11_goBoth : MethodName := ⟨RX11, "goBoth", "(II)V"⟩
abbrev cX11_comes : ByteArray := prog_13_method_23_code
def yX11_comes : MethodName := ⟨RX11, "comes", "(I)Z"⟩
abbrev cX11_land : ByteArray := prog_13_method_24_code
def yX11_land : MethodName := ⟨RX11, "land", "(I)I"⟩
abbrev cX11_carry : ByteArray := prog_13_method_25_code
def yX11_carry : MethodName := ⟨RX11, "carry", "(I)I"⟩
abbrev cX11_carryAll : ByteArray := prog_13_method_26_code
def yX11_carryAll : MethodName := ⟨RX11, "carryAll", "([IZ)V"⟩
abbrev cX11_image : ByteArray := prog_13_method_27_code
def yX11_image : MethodName := ⟨RX11, "image", "()I"⟩
abbrev cX11_restore : ByteArray := prog_13_method_28_code
def yX11_restore : MethodName := ⟨RX11, "restore", "()I"⟩
abbrev cX11_ground : ByteArray := prog_13_method_29_code
def yX11_ground : MethodName := ⟨RX11, "ground", "(II)I"⟩
abbrev cX11_wrongKept : ByteArray := prog_13_method_30_code
def yX11_wrongKept : MethodName := ⟨RX11, "wrongKept", "(I)I"⟩
abbrev cX11_lays : ByteArray := prog_13_method_31_code
def yX11_lays : MethodName := ⟨RX11, "lays", "(II)I"⟩
abbrev cX11_stands : ByteArray := prog_13_method_32_code
def yX11_stands : MethodName := ⟨RX11, "stands", "(II)I"⟩
abbrev cX11_set : ByteArray := prog_13_method_33_code
def yX11_set : MethodName := ⟨RX11, "set", "(II)I"⟩
abbrev cX11_go : ByteArray := prog_13_method_34_code
def yX11_go : MethodName := ⟨RX11, "go", "(II)I"⟩
abbrev cX11_far : ByteArray := prog_13_method_35_code
def yX11_far : MethodName := ⟨RX11, "far", "(II)I"⟩
abbrev cX11_layStepsFrom : ByteArray := prog_13_method_36_code
def yX11_layStepsFrom : MethodName := ⟨RX11, "layStepsFrom", "(I)V"⟩
abbrev cX11_steps : ByteArray := prog_13_method_37_code
def yX11_steps : MethodName := ⟨RX11, "steps", "(II)I"⟩
abbrev cX11_isPair : ByteArray := prog_13_method_38_code
def yX11_isPair : MethodName := ⟨RX11, "isPair", "(II)Z"⟩
abbrev cX11_pairMany : ByteArray := prog_13_method_39_code
def yX11_pairMany : MethodName := ⟨RX11, "pairMany", "()I"⟩
abbrev cX11_pairs : ByteArray := prog_13_method_40_code
def yX11_pairs : MethodName := ⟨RX11, "pairs", "(I)I"⟩
abbrev cX11_partWith : ByteArray := prog_13_method_41_code
def yX11_partWith : MethodName := ⟨RX11, "partWith", "(I)J"⟩
abbrev cX11_islands : ByteArray := prog_13_method_42_code
def yX11_islands : MethodName := ⟨RX11, "islands", "()I"⟩
abbrev cX11_island : ByteArray := prog_13_method_43_code
def yX11_island : MethodName := ⟨RX11, "island", "(I)I"⟩
abbrev cX11_middle : ByteArray := prog_13_method_44_code
def yX11_middle : MethodName := ⟨RX11, "middle", "(I)I"⟩
abbrev cX11_layDaysFrom : ByteArray := prog_13_method_45_code
def yX11_layDaysFrom : MethodName := ⟨RX11, "layDaysFrom", "(II)V"⟩
abbrev cX11_areBoth : ByteArray := prog_13_method_46_code
def yX11_areBoth : MethodName := ⟨RX11, "areBoth", "()Z"⟩
abbrev cX11_wrongTwo : ByteArray := prog_13_method_47_code
def yX11_wrongTwo : MethodName := ⟨RX11, "wrongTwo", "(II)I"⟩
abbrev cX11_seeDays : ByteArray := prog_13_method_48_code
def yX11_seeDays : MethodName := ⟨RX11, "seeDays", "(II)I"⟩
abbrev cX11_see : ByteArray := prog_13_method_49_code
def yX11_see : MethodName := ⟨RX11, "see", "(II)I"⟩
abbrev cX11_way : ByteArray := prog_13_method_50_code
def yX11_way : MethodName := ⟨RX11, "way", "(III)I"⟩
abbrev cX11_hinders : ByteArray := prog_13_method_51_code
def yX11_hinders : MethodName := ⟨RX11, "hinders", "(II)I"⟩
abbrev cX11_needs : ByteArray := prog_13_method_52_code
def yX11_needs : MethodName := ⟨RX11, "needs", "(II)I"⟩
abbrev cX11_within : ByteArray := prog_13_method_53_code
def yX11_within : MethodName := ⟨RX11, "within", "(I)I"⟩
abbrev cX11_layWays : ByteArray := prog_13_method_54_code
def yX11_layWays : MethodName := ⟨RX11, "layWays", "(I)V"⟩
abbrev cX11_wrongWays : ByteArray := prog_13_method_55_code
def yX11_wrongWays : MethodName := ⟨RX11, "wrongWays", "(I)I"⟩
abbrev cX11_ways : ByteArray := prog_13_method_56_code
def yX11_ways : MethodName := ⟨RX11, "ways", "(I)J"⟩
abbrev cX11_rounds : ByteArray := prog_13_method_57_code
def yX11_rounds : MethodName := ⟨RX11, "rounds", "(I)J"⟩
abbrev cX11_late : ByteArray := prog_13_method_58_code
def yX11_late : MethodName := ⟨RX11, "late", "(II)I"⟩
abbrev cX11_wrongCells : ByteArray := prog_13_method_59_code
def yX11_wrongCells : MethodName := ⟨RX11, "wrongCells", "(I)I"⟩
abbrev cX11_notOff : ByteArray := prog_13_method_60_code
def yX11_notOff : MethodName := ⟨RX11, "notOff", "(IIJ)J"⟩
abbrev cX11_toTheLast : ByteArray := prog_13_method_61_code
def yX11_toTheLast : MethodName := ⟨RX11, "toTheLast", "(IIJ)J"⟩
abbrev cX11_hisWay : ByteArray := prog_13_method_62_code
def yX11_hisWay : MethodName := ⟨RX11, "hisWay", "(II)J"⟩
abbrev cX11_letter : ByteArray := prog_13_method_63_code
def yX11_letter : MethodName := ⟨RX11, "letter", "(I)I"⟩
abbrev cX11_third : ByteArray := prog_13_method_64_code
def yX11_third : MethodName := ⟨RX11, "third", "(I)I"⟩
abbrev cX11_farBy : ByteArray := prog_13_method_65_code
def yX11_farBy : MethodName := ⟨RX11, "farBy", "(II)I"⟩
abbrev cX11_rests : ByteArray := prog_13_method_66_code
def yX11_rests : MethodName := ⟨RX11, "rests", "(II)Z"⟩
abbrev cX11_game : ByteArray := prog_13_method_67_code
def yX11_game : MethodName := ⟨RX11, "game", "(I)I"⟩
abbrev cX11_divisor : ByteArray := prog_13_method_68_code
def yX11_divisor : MethodName := ⟨RX11, "divisor", "(JJ)J"⟩
abbrev cX11_partOf : ByteArray := prog_13_method_69_code
def yX11_partOf : MethodName := ⟨RX11, "partOf", "(JJI)J"⟩
abbrev cX11_isWay : ByteArray := prog_13_method_70_code
def yX11_isWay : MethodName := ⟨RX11, "isWay", "(JII)Z"⟩
abbrev cX11_snow : ByteArray := prog_13_method_71_code
def yX11_snow : MethodName := ⟨RX11, "snow", "(III)J"⟩
abbrev cX11_mean : ByteArray := prog_13_method_72_code
def yX11_mean : MethodName := ⟨RX11, "mean", "(I)J"⟩
abbrev cX11_curve : ByteArray := prog_13_method_73_code
def yX11_curve : MethodName := ⟨RX11, "curve", "(I)I"⟩
abbrev cX11_skipped : ByteArray := prog_13_method_74_code
def yX11_skipped : MethodName := ⟨RX11, "skipped", "(I)J"⟩
abbrev cX11_stayOrGo : ByteArray := prog_13_method_75_code
def yX11_stayOrGo : MethodName := ⟨RX11, "stayOrGo", "(J)J"⟩
abbrev cX11_judge : ByteArray := prog_13_method_76_code
def yX11_judge : MethodName := ⟨RX11, "judge", "(I)I"⟩
abbrev cX11_drawBelow : ByteArray := prog_13_method_77_code
def yX11_drawBelow : MethodName := ⟨RX11, "drawBelow", "(I)I"⟩
abbrev cX11_seeds : ByteArray := prog_13_method_78_code
def yX11_seeds : MethodName := ⟨RX11, "seeds", "(III)I"⟩
abbrev cX11_count : ByteArray := prog_13_method_79_code
def yX11_count : MethodName := ⟨RX11, "count", "(I)I"⟩
abbrev cX11_keep : ByteArray := prog_13_method_80_code
def yX11_keep : MethodName := ⟨RX11, "keep", "(IIII)I"⟩
abbrev cX11_wrongRow : ByteArray := prog_13_method_81_code
def yX11_wrongRow : MethodName := ⟨RX11, "wrongRow", "(I)I"⟩
abbrev cX11_narrowed : ByteArray := prog_13_method_82_code
def yX11_narrowed : MethodName := ⟨RX11, "narrowed", "(II)J"⟩
abbrev cX11_row : ByteArray := prog_13_method_83_code
def yX11_row : MethodName := ⟨RX11, "row", "(III)I"⟩
abbrev cX11_put : ByteArray := prog_13_method_84_code
def yX11_put : MethodName := ⟨RX11, "put", "(III)I"⟩
abbrev cX11_element : ByteArray := prog_13_method_85_code
def yX11_element : MethodName := ⟨RX11, "element", "(II)J"⟩
abbrev cX11_copy : ByteArray := prog_13_method_86_code
def yX11_copy : MethodName := ⟨RX11, "copy", "(IIIII)I"⟩
abbrev cX11_costOf : ByteArray := prog_13_method_87_code
def yX11_costOf : MethodName := ⟨RX11, "costOf", "(II)I"⟩
abbrev cX11_cost : ByteArray := prog_13_method_88_code
def yX11_cost : MethodName := ⟨RX11, "cost", "(I)I"⟩
abbrev cX11_toss : ByteArray := prog_13_method_89_code
def yX11_toss : MethodName := ⟨RX11, "toss", "(I)I"⟩
def RJx145de : String := "java/io/Serializable"
def TJx145de : u_T := fun k => match k with
  | _ => ("", "", "", false)
def tyJx145de : Nat → FieldType := fun k => match k with
  | _ => .int
abbrev wsJx145de0 : List Cond := u_ws RJx145de TJx145de 0
theorem nmJx145de : ∀ a, a < 0 → ∀ b, b < 0 → a ≠ b → (TJx145de a).2.1 ≠ (TJx145de b).2.1 := by decide +kernel
theorem tyJx145de_ok : ∀ k, k < 0 → parseFieldDescriptor (TJx145de k).2.2.1 = some (tyJx145de k) := by decide +kernel
def RJ13 : String := "java/lang/Long"
def TJ13 : u_T := fun k => match k with
  | _ => ("", "", "", false)
def tyJ13 : Nat → FieldType := fun k => match k with
  | _ => .int
abbrev wsJ130 : List Cond := u_ws RJ13 TJ13 0
theorem nmJ13 : ∀ a, a < 0 → ∀ b, b < 0 → a ≠ b → (TJ13 a).2.1 ≠ (TJ13 b).2.1 := by decide +kernel
theorem tyJ13_ok : ∀ k, k < 0 → parseFieldDescriptor (TJ13 k).2.2.1 = some (tyJ13 k) := by decide +kernel
abbrev cJ13_bitCount_95d88 : ByteArray := prog_17_method_50_code
def yJ13_bitCount_95d88 : MethodName := ⟨RJ13, "bitCount", "(J)I"⟩
def RJ9 : String := "java/lang/Math"
def TJ9 : u_T := fun k => match k with
  | _ => ("", "", "", false)
def tyJ9 : Nat → FieldType := fun k => match k with
  | _ => .int
abbrev wsJ90 : List Cond := u_ws RJ9 TJ9 0
theorem nmJ9 : ∀ a, a < 0 → ∀ b, b < 0 → a ≠ b → (TJ9 a).2.1 ≠ (TJ9 b).2.1 := by decide +kernel
theorem tyJ9_ok : ∀ k, k < 0 → parseFieldDescriptor (TJ9 k).2.2.1 = some (tyJ9 k) := by decide +kernel
abbrev cJ9_abs_0f7a4 : ByteArray := prog_18_method_59_code
def yJ9_abs_0f7a4 : MethodName := ⟨RJ9, "abs", "(I)I"⟩
abbrev cJ9_max_7cf53 : ByteArray := prog_18_method_65_code
def yJ9_max_7cf53 : MethodName := ⟨RJ9, "max", "(II)I"⟩
abbrev cJ9_min_7cf53 : ByteArray := prog_18_method_69_code
def yJ9_min_7cf53 : MethodName := ⟨RJ9, "min", "(II)I"⟩
def RJ0 : String := "java/lang/String"
def TJ0 : u_T := fun k => match k with
  | _ => ("", "", "", false)
def tyJ0 : Nat → FieldType := fun k => match k with
  | _ => .int
abbrev wsJ00 : List Cond := u_ws RJ0 TJ0 0
theorem nmJ0 : ∀ a, a < 0 → ∀ b, b < 0 → a ≠ b → (TJ0 a).2.1 ≠ (TJ0 b).2.1 := by decide +kernel
theorem tyJ0_ok : ∀ k, k < 0 → parseFieldDescriptor (TJ0 k).2.2.1 = some (tyJ0 k) := by decide +kernel
def RJ10 : String := "java/lang/System"
def TJ10 : u_T := fun k => match k with
  | _ => ("", "", "", false)
def tyJ10 : Nat → FieldType := fun k => match k with
  | _ => .int
abbrev wsJ100 : List Cond := u_ws RJ10 TJ10 0
theorem nmJ10 : ∀ a, a < 0 → ∀ b, b < 0 → a ≠ b → (TJ10 a).2.1 ≠ (TJ10 b).2.1 := by decide +kernel
theorem tyJ10_ok : ∀ k, k < 0 → parseFieldDescriptor (TJ10 k).2.2.1 = some (tyJ10 k) := by decide +kernel
def RJ7 : String := "java/util/Arrays"
def TJ7 : u_T := fun k => match k with
  | _ => ("", "", "", false)
def tyJ7 : Nat → FieldType := fun k => match k with
  | _ => .int
abbrev wsJ70 : List Cond := u_ws RJ7 TJ7 0
theorem nmJ7 : ∀ a, a < 0 → ∀ b, b < 0 → a ≠ b → (TJ7 a).2.1 ≠ (TJ7 b).2.1 := by decide +kernel
theorem tyJ7_ok : ∀ k, k < 0 → parseFieldDescriptor (TJ7 k).2.2.1 = some (tyJ7 k) := by decide +kernel
abbrev cJ7_fill_d0a16 : ByteArray := prog_24_method_101_code
def yJ7_fill_d0a16 : MethodName := ⟨RJ7, "fill", "([JJ)V"⟩
abbrev cJ7_fill_53178 : ByteArray := prog_24_method_103_code
def yJ7_fill_53178 : MethodName := ⟨RJ7, "fill", "([II)V"⟩
def RL : String := "NineMilesOffLaw"
abbrev cL_element : ByteArray := method_3_code
def yL_element : MethodName := ⟨RL, "element", "(LNineMilesOff;II[J)I"⟩
abbrev cL_law : ByteArray := code
def yL_law : MethodName := ⟨RL, "law", "([I)Z"⟩
def wsX0_init : List Cond := .code yX0_init cX0_init 1 none :: ([.methodLink RX0 3 objectInit, .instanceMethod objectInit, .code objectInit ⟨#[0xb1]⟩ 1 none, .arrayClass .int, .fieldLink RX0 9 "NineMilesOff$Board" "heights" "[I", .fieldLink RX0 15 "NineMilesOff$Board" "fars" "[I", .arrayClass .long, .fieldLink RX0 18 "NineMilesOff$Board" "near" "[J", .fieldLink RX0 22 "NineMilesOff$Board" "fit" "[J", .fieldLink RX0 25 "NineMilesOff$Board" "come" "[J", .fieldLink RX0 28 "NineMilesOff$Board" "fresh" "[J", .fieldLink RX0 31 "NineMilesOff$Board" "days" "[I", .fieldLink RX0 34 "NineMilesOff$Board" "walks" "[J", .fieldLink RX0 37 "NineMilesOff$Board" "half" "[J"] ++ wsX00)
def wsX10_isCell : List Cond := .code yX10_isCell cX10_isCell 2 (some .boolean) :: ([.constantLong RX10 383 (36)])
def wsX2_heightOf : List Cond := .code yX2_heightOf cX2_heightOf 2 (some .int) :: ([])
def wsX3_heightAt : List Cond := .code yX3_heightAt cX3_heightAt 2 (some .int) :: ([.fieldLink RX3 9 "NineMilesOff$Land" "kinds" "[I", .fieldLink RX3 15 "NineMilesOff$Land" "figures" "[I", .static yX10_isCell, .initialized RX10, .code yX10_isCell cX10_isCell 2 (some .boolean), .constantLong RX10 383 (36), .methodLink RX3 49 yX2_heightOf, .static yX2_heightOf, .initialized RX2, .code yX2_heightOf cX2_heightOf 2 (some .int)] ++ wsX30)
def wsX7_apart : List Cond := .code yX7_apart cX7_apart 2 (some .int) :: ([.methodLink RX7 19 Lib.Math.abs.name, .static Lib.Math.abs.name, .initialized "java/lang/Math", .code Lib.Math.abs.name Lib.Math.abs.code 1 (some .int)])
def wsX0_bound : List Cond := .code yX0_bound cX0_bound 8 none :: ([.fieldLink RX0 15 "NineMilesOff$Board" "fars" "[I", .fieldLink RX0 18 "NineMilesOff$Board" "near" "[J"] ++ wsX00)
def wsX2_isOpen : List Cond := .code yX2_isOpen cX2_isOpen 3 (some .boolean) :: ([])
def wsX3_isOpen : List Cond := .code yX3_isOpen cX3_isOpen 2 (some .boolean) :: ([.fieldLink RX3 9 "NineMilesOff$Land" "kinds" "[I", .fieldLink RX3 15 "NineMilesOff$Land" "figures" "[I", .fieldLink RX3 18 "NineMilesOff$Land" "winter" "I", .static yX10_isCell, .initialized RX10, .code yX10_isCell cX10_isCell 2 (some .boolean), .constantLong RX10 383 (36), .methodLink RX3 53 yX2_isOpen, .static yX2_isOpen, .initialized RX2, .code yX2_isOpen cX2_isOpen 3 (some .boolean)] ++ wsX30)
def wsX7_bit : List Cond := .code yX7_bit cX7_bit 1 (some .long) :: ([])
def wsX3_openCells : List Cond := .code yX3_openCells cX3_openCells 4 (some .long) :: ([.methodLink RX3 60 yX3_isOpen, .instanceMethod yX3_isOpen, .selects RX3 yX3_isOpen yX3_isOpen, .initialized RX3, .code yX3_isOpen cX3_isOpen 2 (some .boolean), .fieldLink RX3 9 "NineMilesOff$Land" "kinds" "[I", .fieldLink RX3 15 "NineMilesOff$Land" "figures" "[I", .fieldLink RX3 18 "NineMilesOff$Land" "winter" "I", .static yX10_isCell, .initialized RX10, .code yX10_isCell cX10_isCell 2 (some .boolean), .constantLong RX10 383 (36), .methodLink RX3 53 yX2_isOpen, .static yX2_isOpen, .initialized RX2, .code yX2_isOpen cX2_isOpen 3 (some .boolean), .methodLink RX3 63 yX7_bit, .static yX7_bit, .initialized RX7, .code yX7_bit cX7_bit 1 (some .long)] ++ wsX30)
def wsX7_has : List Cond := .code yX7_has cX7_has 3 (some .boolean) :: ([.methodLink RX7 11 yX7_bit, .static yX7_bit, .initialized RX7, .code yX7_bit cX7_bit 1 (some .long)])
def wsX0_admit : List Cond := .code yX0_admit cX0_admit 4 none :: ([.fieldLink RX0 22 "NineMilesOff$Board" "fit" "[J", .fieldLink RX0 18 "NineMilesOff$Board" "near" "[J", .methodLink RX0 76 yX7_has, .static yX7_has, .initialized RX7, .code yX7_has cX7_has 3 (some .boolean), .methodLink RX7 11 yX7_bit, .static yX7_bit, .code yX7_bit cX7_bit 1 (some .long)] ++ wsX00)
def wsX0_lay_r1 : List Cond := [Cond.fieldLink RX0 9 "NineMilesOff$Board" "heights" "[I", Cond.methodLink RX0 46 Lib.Math.abs.name, Cond.static Lib.Math.abs.name, Cond.initialized "java/lang/Math", Cond.code Lib.Math.abs.name Lib.Math.abs.code 1 (some .int), Cond.fieldLink RX0 15 "NineMilesOff$Board" "fars" "[I", Cond.fieldLink RX0 57 "NineMilesOff$Land" "nearest" "I", Cond.fieldLink RX0 61 "NineMilesOff$Land" "farthest" "I", Cond.methodLink RX0 40 yX3_heightAt, Cond.instanceMethod yX3_heightAt, Cond.selects RX3 yX3_heightAt yX3_heightAt, Cond.initialized RX3, Cond.code yX3_heightAt cX3_heightAt 2 (some .int), Cond.fieldLink RX3 9 "NineMilesOff$Land" "kinds" "[I", Cond.fieldLink RX3 15 "NineMilesOff$Land" "figures" "[I", Cond.static yX10_isCell, Cond.initialized RX10, Cond.code yX10_isCell cX10_isCell 2 (some .boolean), Cond.constantLong RX10 383 (36), Cond.methodLink RX3 49 yX2_heightOf, Cond.static yX2_heightOf, Cond.initialized RX2, Cond.code yX2_heightOf cX2_heightOf 2 (some .int), Cond.methodLink RX0 51 yX7_apart]
def wsX0_lay_r2 : List Cond := [Cond.static yX7_apart, Cond.initialized RX7, Cond.code yX7_apart cX7_apart 2 (some .int), Cond.methodLink RX7 19 Lib.Math.abs.name, Cond.methodLink RX0 64 yX0_bound, Cond.instanceMethod yX0_bound, Cond.selects RX0 yX0_bound yX0_bound, Cond.initialized RX0, Cond.code yX0_bound cX0_bound 8 none, Cond.fieldLink RX0 18 "NineMilesOff$Board" "near" "[J", Cond.methodLink RX0 68 yX3_openCells, Cond.instanceMethod yX3_openCells, Cond.selects RX3 yX3_openCells yX3_openCells, Cond.code yX3_openCells cX3_openCells 4 (some .long), Cond.methodLink RX3 60 yX3_isOpen, Cond.instanceMethod yX3_isOpen, Cond.selects RX3 yX3_isOpen yX3_isOpen, Cond.code yX3_isOpen cX3_isOpen 2 (some .boolean), Cond.fieldLink RX3 18 "NineMilesOff$Land" "winter" "I", Cond.methodLink RX3 53 yX2_isOpen, Cond.static yX2_isOpen, Cond.code yX2_isOpen cX2_isOpen 3 (some .boolean), Cond.methodLink RX3 63 yX7_bit, Cond.static yX7_bit]
def wsX0_lay_r3 : List Cond := [Cond.code yX7_bit cX7_bit 1 (some .long), Cond.methodLink RX0 72 yX0_admit, Cond.instanceMethod yX0_admit, Cond.selects RX0 yX0_admit yX0_admit, Cond.code yX0_admit cX0_admit 4 none, Cond.fieldLink RX0 22 "NineMilesOff$Board" "fit" "[J", Cond.methodLink RX0 76 yX7_has, Cond.static yX7_has, Cond.code yX7_has cX7_has 3 (some .boolean), Cond.methodLink RX7 11 yX7_bit]
def wsX0_lay : List Cond := .code yX0_lay cX0_lay 5 none :: ((wsX0_lay_r1 ++ (wsX0_lay_r2 ++ wsX0_lay_r3)) ++ wsX00 ++ wsX30)
def wsX0_nearOf : List Cond := .code yX0_nearOf cX0_nearOf 2 (some .long) :: ([.fieldLink RX0 18 "NineMilesOff$Board" "near" "[J", .static yX10_isCell, .initialized RX10, .code yX10_isCell cX10_isCell 2 (some .boolean), .constantLong RX10 383 (36)] ++ wsX00)
def wsX0_isPair : List Cond := .code yX0_isPair cX0_isPair 3 (some .boolean) :: ([.fieldLink RX0 22 "NineMilesOff$Board" "fit" "[J", .static yX10_isCell, .initialized RX10, .code yX10_isCell cX10_isCell 2 (some .boolean), .constantLong RX10 383 (36), .methodLink RX0 76 yX7_has, .static yX7_has, .initialized RX7, .code yX7_has cX7_has 3 (some .boolean), .methodLink RX7 11 yX7_bit, .static yX7_bit, .code yX7_bit cX7_bit 1 (some .long)] ++ wsX00)
def wsJ13_bitCount_95d88 : List Cond := .code yJ13_bitCount_95d88 cJ13_bitCount_95d88 2 (some .int) :: ([.constantLong RJ13 314 (6148914691236517205), .constantLong RJ13 316 (3689348814741910323), .constantLong RJ13 318 (1085102592571150095)])
def wsX0_bitsOf : List Cond := .code yX0_bitsOf cX0_bitsOf 3 (some .int) :: ([.methodLink RX0 88 yJ13_bitCount_95d88, .static yJ13_bitCount_95d88, .initialized RJ13, .code yJ13_bitCount_95d88 cJ13_bitCount_95d88 2 (some .int), .constantLong RJ13 314 (6148914691236517205), .constantLong RJ13 316 (3689348814741910323), .constantLong RJ13 318 (1085102592571150095)])
def wsX0_pairsInAll : List Cond := .code yX0_pairsInAll cX0_pairsInAll 1 (some .int) :: ([.fieldLink RX0 22 "NineMilesOff$Board" "fit" "[J", .methodLink RX0 84 yX0_bitsOf, .static yX0_bitsOf, .initialized RX0, .code yX0_bitsOf cX0_bitsOf 3 (some .int), .methodLink RX0 88 yJ13_bitCount_95d88, .static yJ13_bitCount_95d88, .initialized RJ13, .code yJ13_bitCount_95d88 cJ13_bitCount_95d88 2 (some .int), .constantLong RJ13 314 (6148914691236517205), .constantLong RJ13 316 (3689348814741910323), .constantLong RJ13 318 (1085102592571150095)] ++ wsX00)
def wsX0_pairAt : List Cond := .code yX0_pairAt cX0_pairAt 5 (some .int) :: ([.fieldLink RX0 22 "NineMilesOff$Board" "fit" "[J", .methodLink RX0 76 yX7_has, .static yX7_has, .initialized RX7, .code yX7_has cX7_has 3 (some .boolean), .methodLink RX7 11 yX7_bit, .static yX7_bit, .code yX7_bit cX7_bit 1 (some .long)] ++ wsX00)
def wsX0_farsInAll : List Cond := .code yX0_farsInAll cX0_farsInAll 5 (some .long) :: ([.fieldLink RX0 22 "NineMilesOff$Board" "fit" "[J", .fieldLink RX0 15 "NineMilesOff$Board" "fars" "[I", .methodLink RX0 76 yX7_has, .static yX7_has, .initialized RX7, .code yX7_has cX7_has 3 (some .boolean), .methodLink RX7 11 yX7_bit, .static yX7_bit, .code yX7_bit cX7_bit 1 (some .long)] ++ wsX00)
def wsJ7_fill_53178 : List Cond := .code yJ7_fill_53178 cJ7_fill_53178 4 none :: ([])
def wsJ7_fill_d0a16 : List Cond := .code yJ7_fill_d0a16 cJ7_fill_d0a16 5 none :: ([])
def wsX0_start_r1 : List Cond := [Cond.fieldLink RX0 31 "NineMilesOff$Board" "days" "[I", Cond.fieldLink RX0 25 "NineMilesOff$Board" "come" "[J", Cond.methodLink RX0 94 yJ7_fill_53178, Cond.static yJ7_fill_53178, Cond.initialized RJ7, Cond.code yJ7_fill_53178 cJ7_fill_53178 4 none, Cond.methodLink RX0 100 yJ7_fill_d0a16, Cond.static yJ7_fill_d0a16, Cond.code yJ7_fill_d0a16 cJ7_fill_d0a16 5 none, Cond.methodLink RX0 103 yX0_isPair, Cond.instanceMethod yX0_isPair, Cond.selects RX0 yX0_isPair yX0_isPair, Cond.initialized RX0, Cond.code yX0_isPair cX0_isPair 3 (some .boolean), Cond.fieldLink RX0 22 "NineMilesOff$Board" "fit" "[J", Cond.static yX10_isCell, Cond.initialized RX10, Cond.code yX10_isCell cX10_isCell 2 (some .boolean), Cond.constantLong RX10 383 (36), Cond.methodLink RX0 76 yX7_has, Cond.static yX7_has, Cond.initialized RX7, Cond.code yX7_has cX7_has 3 (some .boolean), Cond.methodLink RX7 11 yX7_bit]
def wsX0_start_r2 : List Cond := [Cond.static yX7_bit, Cond.code yX7_bit cX7_bit 1 (some .long), Cond.methodLink RX0 107 yX7_bit]
def wsX0_start : List Cond := .code yX0_start cX0_start 3 none :: ((wsX0_start_r1 ++ wsX0_start_r2) ++ wsX00)
def wsX7_cellTo : List Cond := .code yX7_cellTo cX7_cellTo 2 (some .int) :: ([.static yX10_isCell, .initialized RX10, .code yX10_isCell cX10_isCell 2 (some .boolean), .constantLong RX10 383 (36)])
def wsX0_comeAround : List Cond := .code yX0_comeAround cX0_comeAround 6 (some .long) :: ([.fieldLink RX0 25 "NineMilesOff$Board" "come" "[J", .methodLink RX0 124 yX7_cellTo, .static yX7_cellTo, .initialized RX7, .code yX7_cellTo cX7_cellTo 2 (some .int), .static yX10_isCell, .initialized RX10, .code yX10_isCell cX10_isCell 2 (some .boolean), .constantLong RX10 383 (36)] ++ wsX00)
def wsX7_spread : List Cond := .code yX7_spread cX7_spread 4 (some .long) :: ([.constantLong RX7 29 (-1090785346), .constantLong RX7 31 (-34905131041), .constantLong RX7 33 (68719476735)])
def wsX0_mark : List Cond := .code yX0_mark cX0_mark 6 none :: ([.fieldLink RX0 31 "NineMilesOff$Board" "days" "[I", .static yX10_isCell, .initialized RX10, .code yX10_isCell cX10_isCell 2 (some .boolean), .constantLong RX10 383 (36), .methodLink RX0 76 yX7_has, .static yX7_has, .initialized RX7, .code yX7_has cX7_has 3 (some .boolean), .methodLink RX7 11 yX7_bit, .static yX7_bit, .code yX7_bit cX7_bit 1 (some .long)] ++ wsX00)
def wsX0_spreadOn_r1 : List Cond := [Cond.fieldLink RX0 28 "NineMilesOff$Board" "fresh" "[J", Cond.fieldLink RX0 22 "NineMilesOff$Board" "fit" "[J", Cond.fieldLink RX0 25 "NineMilesOff$Board" "come" "[J", Cond.constantLong RX0 118 (-1), Cond.methodLink RX0 111 yX0_comeAround, Cond.instanceMethod yX0_comeAround, Cond.selects RX0 yX0_comeAround yX0_comeAround, Cond.initialized RX0, Cond.code yX0_comeAround cX0_comeAround 6 (some .long), Cond.methodLink RX0 124 yX7_cellTo, Cond.static yX7_cellTo, Cond.initialized RX7, Cond.code yX7_cellTo cX7_cellTo 2 (some .int), Cond.static yX10_isCell, Cond.initialized RX10, Cond.code yX10_isCell cX10_isCell 2 (some .boolean), Cond.constantLong RX10 383 (36), Cond.methodLink RX0 114 yX7_spread, Cond.static yX7_spread, Cond.code yX7_spread cX7_spread 4 (some .long), Cond.constantLong RX7 29 (-1090785346), Cond.constantLong RX7 31 (-34905131041), Cond.constantLong RX7 33 (68719476735), Cond.methodLink RX0 120 yX0_mark]
def wsX0_spreadOn_r2 : List Cond := [Cond.instanceMethod yX0_mark, Cond.selects RX0 yX0_mark yX0_mark, Cond.code yX0_mark cX0_mark 6 none, Cond.fieldLink RX0 31 "NineMilesOff$Board" "days" "[I", Cond.methodLink RX0 76 yX7_has, Cond.static yX7_has, Cond.code yX7_has cX7_has 3 (some .boolean), Cond.methodLink RX7 11 yX7_bit, Cond.static yX7_bit, Cond.code yX7_bit cX7_bit 1 (some .long)]
def wsX0_spreadOn : List Cond := .code yX0_spreadOn cX0_spreadOn 4 (some .boolean) :: ((wsX0_spreadOn_r1 ++ wsX0_spreadOn_r2) ++ wsX00)
def wsX0_daysBetween_r1 : List Cond := [Cond.fieldLink RX0 25 "NineMilesOff$Board" "come" "[J", Cond.methodLink RX0 103 yX0_isPair, Cond.instanceMethod yX0_isPair, Cond.selects RX0 yX0_isPair yX0_isPair, Cond.initialized RX0, Cond.code yX0_isPair cX0_isPair 3 (some .boolean), Cond.fieldLink RX0 22 "NineMilesOff$Board" "fit" "[J", Cond.static yX10_isCell, Cond.initialized RX10, Cond.code yX10_isCell cX10_isCell 2 (some .boolean), Cond.constantLong RX10 383 (36), Cond.methodLink RX0 76 yX7_has, Cond.static yX7_has, Cond.initialized RX7, Cond.code yX7_has cX7_has 3 (some .boolean), Cond.methodLink RX7 11 yX7_bit, Cond.static yX7_bit, Cond.code yX7_bit cX7_bit 1 (some .long), Cond.methodLink RX0 127 yX0_start, Cond.instanceMethod yX0_start, Cond.selects RX0 yX0_start yX0_start, Cond.code yX0_start cX0_start 3 none, Cond.fieldLink RX0 31 "NineMilesOff$Board" "days" "[I", Cond.methodLink RX0 94 yJ7_fill_53178]
def wsX0_daysBetween_r2 : List Cond := [Cond.static yJ7_fill_53178, Cond.initialized RJ7, Cond.code yJ7_fill_53178 cJ7_fill_53178 4 none, Cond.methodLink RX0 100 yJ7_fill_d0a16, Cond.static yJ7_fill_d0a16, Cond.code yJ7_fill_d0a16 cJ7_fill_d0a16 5 none, Cond.methodLink RX0 107 yX7_bit, Cond.methodLink RX0 130 yX0_spreadOn, Cond.instanceMethod yX0_spreadOn, Cond.selects RX0 yX0_spreadOn yX0_spreadOn, Cond.code yX0_spreadOn cX0_spreadOn 4 (some .boolean), Cond.fieldLink RX0 28 "NineMilesOff$Board" "fresh" "[J", Cond.constantLong RX0 118 (-1), Cond.methodLink RX0 111 yX0_comeAround, Cond.instanceMethod yX0_comeAround, Cond.selects RX0 yX0_comeAround yX0_comeAround, Cond.code yX0_comeAround cX0_comeAround 6 (some .long), Cond.methodLink RX0 124 yX7_cellTo, Cond.static yX7_cellTo, Cond.code yX7_cellTo cX7_cellTo 2 (some .int), Cond.methodLink RX0 114 yX7_spread, Cond.static yX7_spread, Cond.code yX7_spread cX7_spread 4 (some .long), Cond.constantLong RX7 29 (-1090785346)]
def wsX0_daysBetween_r3 : List Cond := [Cond.constantLong RX7 31 (-34905131041), Cond.constantLong RX7 33 (68719476735), Cond.methodLink RX0 120 yX0_mark, Cond.instanceMethod yX0_mark, Cond.selects RX0 yX0_mark yX0_mark, Cond.code yX0_mark cX0_mark 6 none]
def wsX0_daysBetween : List Cond := .code yX0_daysBetween cX0_daysBetween 6 (some .int) :: ((wsX0_daysBetween_r1 ++ (wsX0_daysBetween_r2 ++ wsX0_daysBetween_r3)) ++ wsX00)
def wsX0_daysLeft : List Cond := .code yX0_daysLeft cX0_daysLeft 3 (some .int) :: ([.fieldLink RX0 31 "NineMilesOff$Board" "days" "[I", .static yX10_isCell, .initialized RX10, .code yX10_isCell cX10_isCell 2 (some .boolean), .constantLong RX10 383 (36)] ++ wsX00)
def wsX0_nextPair : List Cond := .code yX0_nextPair cX0_nextPair 10 (some .int) :: ([.methodLink RX0 137 yX0_daysLeft, .instanceMethod yX0_daysLeft, .selects RX0 yX0_daysLeft yX0_daysLeft, .initialized RX0, .code yX0_daysLeft cX0_daysLeft 3 (some .int), .fieldLink RX0 31 "NineMilesOff$Board" "days" "[I", .static yX10_isCell, .initialized RX10, .code yX10_isCell cX10_isCell 2 (some .boolean), .constantLong RX10 383 (36), .methodLink RX0 124 yX7_cellTo, .static yX7_cellTo, .initialized RX7, .code yX7_cellTo cX7_cellTo 2 (some .int)] ++ wsX00)
def wsX0_pairOnWay : List Cond := .code yX0_pairOnWay cX0_pairOnWay 6 (some .int) :: ([.methodLink RX0 134 yX0_nextPair, .instanceMethod yX0_nextPair, .selects RX0 yX0_nextPair yX0_nextPair, .initialized RX0, .code yX0_nextPair cX0_nextPair 10 (some .int), .methodLink RX0 137 yX0_daysLeft, .instanceMethod yX0_daysLeft, .selects RX0 yX0_daysLeft yX0_daysLeft, .code yX0_daysLeft cX0_daysLeft 3 (some .int), .fieldLink RX0 31 "NineMilesOff$Board" "days" "[I", .static yX10_isCell, .initialized RX10, .code yX10_isCell cX10_isCell 2 (some .boolean), .constantLong RX10 383 (36), .methodLink RX0 124 yX7_cellTo, .static yX7_cellTo, .initialized RX7, .code yX7_cellTo cX7_cellTo 2 (some .int)] ++ wsX00)
def wsX0_pairsWithin_r1 : List Cond := [Cond.fieldLink RX0 25 "NineMilesOff$Board" "come" "[J", Cond.methodLink RX0 127 yX0_start, Cond.instanceMethod yX0_start, Cond.selects RX0 yX0_start yX0_start, Cond.initialized RX0, Cond.code yX0_start cX0_start 3 none, Cond.fieldLink RX0 31 "NineMilesOff$Board" "days" "[I", Cond.methodLink RX0 94 yJ7_fill_53178, Cond.static yJ7_fill_53178, Cond.initialized RJ7, Cond.code yJ7_fill_53178 cJ7_fill_53178 4 none, Cond.methodLink RX0 100 yJ7_fill_d0a16, Cond.static yJ7_fill_d0a16, Cond.code yJ7_fill_d0a16 cJ7_fill_d0a16 5 none, Cond.methodLink RX0 103 yX0_isPair, Cond.instanceMethod yX0_isPair, Cond.selects RX0 yX0_isPair yX0_isPair, Cond.code yX0_isPair cX0_isPair 3 (some .boolean), Cond.fieldLink RX0 22 "NineMilesOff$Board" "fit" "[J", Cond.static yX10_isCell, Cond.initialized RX10, Cond.code yX10_isCell cX10_isCell 2 (some .boolean), Cond.constantLong RX10 383 (36), Cond.methodLink RX0 76 yX7_has]
def wsX0_pairsWithin_r2 : List Cond := [Cond.static yX7_has, Cond.initialized RX7, Cond.code yX7_has cX7_has 3 (some .boolean), Cond.methodLink RX7 11 yX7_bit, Cond.static yX7_bit, Cond.code yX7_bit cX7_bit 1 (some .long), Cond.methodLink RX0 107 yX7_bit, Cond.methodLink RX0 130 yX0_spreadOn, Cond.instanceMethod yX0_spreadOn, Cond.selects RX0 yX0_spreadOn yX0_spreadOn, Cond.code yX0_spreadOn cX0_spreadOn 4 (some .boolean), Cond.fieldLink RX0 28 "NineMilesOff$Board" "fresh" "[J", Cond.constantLong RX0 118 (-1), Cond.methodLink RX0 111 yX0_comeAround, Cond.instanceMethod yX0_comeAround, Cond.selects RX0 yX0_comeAround yX0_comeAround, Cond.code yX0_comeAround cX0_comeAround 6 (some .long), Cond.methodLink RX0 124 yX7_cellTo, Cond.static yX7_cellTo, Cond.code yX7_cellTo cX7_cellTo 2 (some .int), Cond.methodLink RX0 114 yX7_spread, Cond.static yX7_spread, Cond.code yX7_spread cX7_spread 4 (some .long), Cond.constantLong RX7 29 (-1090785346)]
def wsX0_pairsWithin_r3 : List Cond := [Cond.constantLong RX7 31 (-34905131041), Cond.constantLong RX7 33 (68719476735), Cond.methodLink RX0 120 yX0_mark, Cond.instanceMethod yX0_mark, Cond.selects RX0 yX0_mark yX0_mark, Cond.code yX0_mark cX0_mark 6 none, Cond.methodLink RX0 84 yX0_bitsOf, Cond.static yX0_bitsOf, Cond.code yX0_bitsOf cX0_bitsOf 3 (some .int), Cond.methodLink RX0 88 yJ13_bitCount_95d88, Cond.static yJ13_bitCount_95d88, Cond.initialized RJ13, Cond.code yJ13_bitCount_95d88 cJ13_bitCount_95d88 2 (some .int), Cond.constantLong RJ13 314 (6148914691236517205), Cond.constantLong RJ13 316 (3689348814741910323), Cond.constantLong RJ13 318 (1085102592571150095)]
def wsX0_pairsWithin : List Cond := .code yX0_pairsWithin cX0_pairsWithin 5 (some .int) :: ((wsX0_pairsWithin_r1 ++ (wsX0_pairsWithin_r2 ++ wsX0_pairsWithin_r3)) ++ wsX00)
def wsX0_walkHim : List Cond := .code yX0_walkHim cX0_walkHim 5 none :: ([.fieldLink RX0 37 "NineMilesOff$Board" "half" "[J", .fieldLink RX0 34 "NineMilesOff$Board" "walks" "[J", .methodLink RX0 100 yJ7_fill_d0a16, .static yJ7_fill_d0a16, .initialized RJ7, .code yJ7_fill_d0a16 cJ7_fill_d0a16 5 none, .methodLink RX0 124 yX7_cellTo, .static yX7_cellTo, .initialized RX7, .code yX7_cellTo cX7_cellTo 2 (some .int), .static yX10_isCell, .initialized RX10, .code yX10_isCell cX10_isCell 2 (some .boolean), .constantLong RX10 383 (36)] ++ wsX00)
def wsX0_walkHer : List Cond := .code yX0_walkHer cX0_walkHer 5 none :: ([.fieldLink RX0 34 "NineMilesOff$Board" "walks" "[J", .fieldLink RX0 22 "NineMilesOff$Board" "fit" "[J", .fieldLink RX0 37 "NineMilesOff$Board" "half" "[J", .methodLink RX0 100 yJ7_fill_d0a16, .static yJ7_fill_d0a16, .initialized RJ7, .code yJ7_fill_d0a16 cJ7_fill_d0a16 5 none, .methodLink RX0 124 yX7_cellTo, .static yX7_cellTo, .initialized RX7, .code yX7_cellTo cX7_cellTo 2 (some .int), .static yX10_isCell, .initialized RX10, .code yX10_isCell cX10_isCell 2 (some .boolean), .constantLong RX10 383 (36)] ++ wsX00)
def wsX0_walk_r1 : List Cond := [Cond.fieldLink RX0 34 "NineMilesOff$Board" "walks" "[J", Cond.methodLink RX0 100 yJ7_fill_d0a16, Cond.static yJ7_fill_d0a16, Cond.initialized RJ7, Cond.code yJ7_fill_d0a16 cJ7_fill_d0a16 5 none, Cond.methodLink RX0 103 yX0_isPair, Cond.instanceMethod yX0_isPair, Cond.selects RX0 yX0_isPair yX0_isPair, Cond.initialized RX0, Cond.code yX0_isPair cX0_isPair 3 (some .boolean), Cond.fieldLink RX0 22 "NineMilesOff$Board" "fit" "[J", Cond.static yX10_isCell, Cond.initialized RX10, Cond.code yX10_isCell cX10_isCell 2 (some .boolean), Cond.constantLong RX10 383 (36), Cond.methodLink RX0 76 yX7_has, Cond.static yX7_has, Cond.initialized RX7, Cond.code yX7_has cX7_has 3 (some .boolean), Cond.methodLink RX7 11 yX7_bit, Cond.static yX7_bit, Cond.code yX7_bit cX7_bit 1 (some .long), Cond.methodLink RX0 140 yX0_walkHim, Cond.instanceMethod yX0_walkHim]
def wsX0_walk_r2 : List Cond := [Cond.selects RX0 yX0_walkHim yX0_walkHim, Cond.code yX0_walkHim cX0_walkHim 5 none, Cond.fieldLink RX0 37 "NineMilesOff$Board" "half" "[J", Cond.methodLink RX0 124 yX7_cellTo, Cond.static yX7_cellTo, Cond.code yX7_cellTo cX7_cellTo 2 (some .int), Cond.methodLink RX0 143 yX0_walkHer, Cond.instanceMethod yX0_walkHer, Cond.selects RX0 yX0_walkHer yX0_walkHer, Cond.code yX0_walkHer cX0_walkHer 5 none]
def wsX0_walk : List Cond := .code yX0_walk cX0_walk 5 none :: ((wsX0_walk_r1 ++ wsX0_walk_r2) ++ wsX00)
def wsX0_walksTo : List Cond := .code yX0_walksTo cX0_walksTo 3 (some .long) :: ([.fieldLink RX0 34 "NineMilesOff$Board" "walks" "[J", .static yX10_isCell, .initialized RX10, .code yX10_isCell cX10_isCell 2 (some .boolean), .constantLong RX10 383 (36)] ++ wsX00)
def wsX0_walksInAll : List Cond := .code yX0_walksInAll cX0_walksInAll 4 (some .long) :: ([.fieldLink RX0 34 "NineMilesOff$Board" "walks" "[J"] ++ wsX00)
def wsX1_commonDivisor : List Cond := .code yX1_commonDivisor cX1_commonDivisor 11 (some .long) :: ([])
def wsX1_partOf : List Cond := .code yX1_partOf cX1_partOf 7 (some .long) :: ([.methodLink RX1 7 yX1_commonDivisor, .static yX1_commonDivisor, .initialized RX1, .code yX1_commonDivisor cX1_commonDivisor 11 (some .long)])
def wsX2_isKind : List Cond := .code yX2_isKind cX2_isKind 1 (some .boolean) :: ([])
def wsX2_chanceOf : List Cond := .code yX2_chanceOf cX2_chanceOf 2 (some .int) :: ([])
def wsX2_costOf : List Cond := .code yX2_costOf cX2_costOf 2 (some .int) :: ([.methodLink RX2 9 Lib.Math.max.name, .static Lib.Math.max.name, .initialized "java/lang/Math", .code Lib.Math.max.name Lib.Math.max.code 2 (some .int)])
def wsX2_fail : List Cond := .code yX2_fail cX2_fail 2 none :: ([.classLink RX2 15 "java/lang/UnsupportedOperationException", .initialized "java/lang/UnsupportedOperationException", .classLink RX2 22 "java/lang/IllegalStateException", .initialized "java/lang/IllegalStateException", .classLink RX2 29 "java/lang/IllegalArgumentException", .initialized "java/lang/IllegalArgumentException"] ++ (vx_atS RX2 19 "java/lang/UnsupportedOperationException" ["java/lang/RuntimeException", "java/lang/Exception"]).filter goodWord ++ (vx_atS RX2 26 "java/lang/IllegalStateException" ["java/lang/RuntimeException", "java/lang/Exception"]).filter goodWord ++ (vx_atS RX2 33 "java/lang/IllegalArgumentException" ["java/lang/RuntimeException", "java/lang/Exception"]).filter goodWord)
def wsX3_init : List Cond := .code yX3_init cX3_init 1 none :: ([.methodLink RX3 3 objectInit, .instanceMethod objectInit, .code objectInit ⟨#[0xb1]⟩ 1 none, .arrayClass .int, .fieldLink RX3 9 "NineMilesOff$Land" "kinds" "[I", .fieldLink RX3 15 "NineMilesOff$Land" "figures" "[I", .fieldLink RX3 18 "NineMilesOff$Land" "winter" "I", .fieldLink RX3 22 "NineMilesOff$Land" "nearest" "I", .fieldLink RX3 25 "NineMilesOff$Land" "farthest" "I", .fieldLink RX3 28 "NineMilesOff$Land" "his" "I", .fieldLink RX3 31 "NineMilesOff$Land" "hers" "I", .fieldLink RX3 34 "NineMilesOff$Land" "day" "I", .fieldLink RX3 37 "NineMilesOff$Land" "stopped" "I", .fieldLink RX3 40 "NineMilesOff$Land" "pain" "I"] ++ wsX30)
def wsX3_becomes : List Cond := .code yX3_becomes cX3_becomes 3 none :: ([.fieldLink RX3 9 "NineMilesOff$Land" "kinds" "[I", .fieldLink RX3 15 "NineMilesOff$Land" "figures" "[I", .fieldLink RX3 18 "NineMilesOff$Land" "winter" "I", .fieldLink RX3 22 "NineMilesOff$Land" "nearest" "I", .fieldLink RX3 25 "NineMilesOff$Land" "farthest" "I", .fieldLink RX3 28 "NineMilesOff$Land" "his" "I", .fieldLink RX3 31 "NineMilesOff$Land" "hers" "I", .fieldLink RX3 34 "NineMilesOff$Land" "day" "I", .fieldLink RX3 37 "NineMilesOff$Land" "stopped" "I", .fieldLink RX3 40 "NineMilesOff$Land" "pain" "I"] ++ wsX30)
def wsX3_kindAt : List Cond := .code yX3_kindAt cX3_kindAt 2 (some .int) :: ([.fieldLink RX3 9 "NineMilesOff$Land" "kinds" "[I", .static yX10_isCell, .initialized RX10, .code yX10_isCell cX10_isCell 2 (some .boolean), .constantLong RX10 383 (36)] ++ wsX30)
def wsX3_figureAt : List Cond := .code yX3_figureAt cX3_figureAt 2 (some .int) :: ([.fieldLink RX3 15 "NineMilesOff$Land" "figures" "[I", .static yX10_isCell, .initialized RX10, .code yX10_isCell cX10_isCell 2 (some .boolean), .constantLong RX10 383 (36)] ++ wsX30)
def wsX3_chanceAt : List Cond := .code yX3_chanceAt cX3_chanceAt 2 (some .int) :: ([.fieldLink RX3 9 "NineMilesOff$Land" "kinds" "[I", .fieldLink RX3 15 "NineMilesOff$Land" "figures" "[I", .static yX10_isCell, .initialized RX10, .code yX10_isCell cX10_isCell 2 (some .boolean), .constantLong RX10 383 (36), .methodLink RX3 57 yX2_chanceOf, .static yX2_chanceOf, .initialized RX2, .code yX2_chanceOf cX2_chanceOf 2 (some .int)] ++ wsX30)
def wsX3_sureCells : List Cond := .code yX3_sureCells cX3_sureCells 4 (some .long) :: ([.methodLink RX3 69 yX3_chanceAt, .instanceMethod yX3_chanceAt, .selects RX3 yX3_chanceAt yX3_chanceAt, .initialized RX3, .code yX3_chanceAt cX3_chanceAt 2 (some .int), .fieldLink RX3 9 "NineMilesOff$Land" "kinds" "[I", .fieldLink RX3 15 "NineMilesOff$Land" "figures" "[I", .static yX10_isCell, .initialized RX10, .code yX10_isCell cX10_isCell 2 (some .boolean), .constantLong RX10 383 (36), .methodLink RX3 57 yX2_chanceOf, .static yX2_chanceOf, .initialized RX2, .code yX2_chanceOf cX2_chanceOf 2 (some .int), .methodLink RX3 63 yX7_bit, .static yX7_bit, .initialized RX7, .code yX7_bit cX7_bit 1 (some .long)] ++ wsX30)
def wsX3_unsureCells : List Cond := .code yX3_unsureCells cX3_unsureCells 4 (some .long) :: ([.methodLink RX3 69 yX3_chanceAt, .instanceMethod yX3_chanceAt, .selects RX3 yX3_chanceAt yX3_chanceAt, .initialized RX3, .code yX3_chanceAt cX3_chanceAt 2 (some .int), .fieldLink RX3 9 "NineMilesOff$Land" "kinds" "[I", .fieldLink RX3 15 "NineMilesOff$Land" "figures" "[I", .static yX10_isCell, .initialized RX10, .code yX10_isCell cX10_isCell 2 (some .boolean), .constantLong RX10 383 (36), .methodLink RX3 57 yX2_chanceOf, .static yX2_chanceOf, .initialized RX2, .code yX2_chanceOf cX2_chanceOf 2 (some .int), .methodLink RX3 63 yX7_bit, .static yX7_bit, .initialized RX7, .code yX7_bit cX7_bit 1 (some .long)] ++ wsX30)
def wsX3_bothStand : List Cond := .code yX3_bothStand cX3_bothStand 1 (some .boolean) :: ([.fieldLink RX3 28 "NineMilesOff$Land" "his" "I", .fieldLink RX3 31 "NineMilesOff$Land" "hers" "I"] ++ wsX30)
def wsX3_farBetween : List Cond := .code yX3_farBetween cX3_farBetween 3 (some .int) :: ([.methodLink RX3 79 Lib.Math.abs.name, .static Lib.Math.abs.name, .initialized "java/lang/Math", .code Lib.Math.abs.name Lib.Math.abs.code 1 (some .int), .methodLink RX3 73 yX7_apart, .static yX7_apart, .initialized RX7, .code yX7_apart cX7_apart 2 (some .int), .methodLink RX7 19 Lib.Math.abs.name, .methodLink RX3 76 yX3_heightAt, .instanceMethod yX3_heightAt, .selects RX3 yX3_heightAt yX3_heightAt, .initialized RX3, .code yX3_heightAt cX3_heightAt 2 (some .int), .fieldLink RX3 9 "NineMilesOff$Land" "kinds" "[I", .fieldLink RX3 15 "NineMilesOff$Land" "figures" "[I", .static yX10_isCell, .initialized RX10, .code yX10_isCell cX10_isCell 2 (some .boolean), .constantLong RX10 383 (36), .methodLink RX3 49 yX2_heightOf, .static yX2_heightOf, .initialized RX2, .code yX2_heightOf cX2_heightOf 2 (some .int)] ++ wsX30)
def wsX3_layAt : List Cond := .code yX3_layAt cX3_layAt 4 none :: ([.fieldLink RX3 9 "NineMilesOff$Land" "kinds" "[I", .fieldLink RX3 15 "NineMilesOff$Land" "figures" "[I", .static yX10_isCell, .initialized RX10, .code yX10_isCell cX10_isCell 2 (some .boolean), .constantLong RX10 383 (36)] ++ wsX30)
def wsX3_place : List Cond := .code yX3_place cX3_place 3 none :: ([.fieldLink RX3 28 "NineMilesOff$Land" "his" "I", .fieldLink RX3 31 "NineMilesOff$Land" "hers" "I"] ++ wsX30)
def wsX3_cellBy : List Cond := .code yX3_cellBy cX3_cellBy 4 (some .int) :: ([.methodLink RX3 84 yX7_cellTo, .static yX7_cellTo, .initialized RX7, .code yX7_cellTo cX7_cellTo 2 (some .int), .static yX10_isCell, .initialized RX10, .code yX10_isCell cX10_isCell 2 (some .boolean), .constantLong RX10 383 (36), .methodLink RX3 60 yX3_isOpen, .instanceMethod yX3_isOpen, .selects RX3 yX3_isOpen yX3_isOpen, .initialized RX3, .code yX3_isOpen cX3_isOpen 2 (some .boolean), .fieldLink RX3 9 "NineMilesOff$Land" "kinds" "[I", .fieldLink RX3 15 "NineMilesOff$Land" "figures" "[I", .fieldLink RX3 18 "NineMilesOff$Land" "winter" "I", .methodLink RX3 53 yX2_isOpen, .static yX2_isOpen, .initialized RX2, .code yX2_isOpen cX2_isOpen 3 (some .boolean)] ++ wsX30)
def wsX3_cellByOrStay : List Cond := .code yX3_cellByOrStay cX3_cellByOrStay 4 (some .int) :: ([.methodLink RX3 87 yX3_cellBy, .instanceMethod yX3_cellBy, .selects RX3 yX3_cellBy yX3_cellBy, .initialized RX3, .code yX3_cellBy cX3_cellBy 4 (some .int), .methodLink RX3 84 yX7_cellTo, .static yX7_cellTo, .initialized RX7, .code yX7_cellTo cX7_cellTo 2 (some .int), .static yX10_isCell, .initialized RX10, .code yX10_isCell cX10_isCell 2 (some .boolean), .constantLong RX10 383 (36), .methodLink RX3 60 yX3_isOpen, .instanceMethod yX3_isOpen, .selects RX3 yX3_isOpen yX3_isOpen, .code yX3_isOpen cX3_isOpen 2 (some .boolean), .fieldLink RX3 9 "NineMilesOff$Land" "kinds" "[I", .fieldLink RX3 15 "NineMilesOff$Land" "figures" "[I", .fieldLink RX3 18 "NineMilesOff$Land" "winter" "I", .methodLink RX3 53 yX2_isOpen, .static yX2_isOpen, .initialized RX2, .code yX2_isOpen cX2_isOpen 3 (some .boolean)] ++ wsX30)
def wsX3_endDay_r1 : List Cond := [Cond.fieldLink RX3 28 "NineMilesOff$Land" "his" "I", Cond.fieldLink RX3 31 "NineMilesOff$Land" "hers" "I", Cond.fieldLink RX3 22 "NineMilesOff$Land" "nearest" "I", Cond.fieldLink RX3 37 "NineMilesOff$Land" "stopped" "I", Cond.fieldLink RX3 25 "NineMilesOff$Land" "farthest" "I", Cond.fieldLink RX3 40 "NineMilesOff$Land" "pain" "I", Cond.methodLink RX3 94 yX3_farBetween, Cond.instanceMethod yX3_farBetween, Cond.selects RX3 yX3_farBetween yX3_farBetween, Cond.initialized RX3, Cond.code yX3_farBetween cX3_farBetween 3 (some .int), Cond.methodLink RX3 79 Lib.Math.abs.name, Cond.static Lib.Math.abs.name, Cond.initialized "java/lang/Math", Cond.code Lib.Math.abs.name Lib.Math.abs.code 1 (some .int), Cond.methodLink RX3 73 yX7_apart, Cond.static yX7_apart, Cond.initialized RX7, Cond.code yX7_apart cX7_apart 2 (some .int), Cond.methodLink RX7 19 Lib.Math.abs.name, Cond.methodLink RX3 76 yX3_heightAt, Cond.instanceMethod yX3_heightAt, Cond.selects RX3 yX3_heightAt yX3_heightAt, Cond.code yX3_heightAt cX3_heightAt 2 (some .int)]
def wsX3_endDay_r2 : List Cond := [Cond.fieldLink RX3 9 "NineMilesOff$Land" "kinds" "[I", Cond.fieldLink RX3 15 "NineMilesOff$Land" "figures" "[I", Cond.static yX10_isCell, Cond.initialized RX10, Cond.code yX10_isCell cX10_isCell 2 (some .boolean), Cond.constantLong RX10 383 (36), Cond.methodLink RX3 49 yX2_heightOf, Cond.static yX2_heightOf, Cond.initialized RX2, Cond.code yX2_heightOf cX2_heightOf 2 (some .int)]
def wsX3_endDay : List Cond := .code yX3_endDay cX3_endDay 4 none :: ((wsX3_endDay_r1 ++ wsX3_endDay_r2) ++ wsX30)
def wsX3_goDay_r1 : List Cond := [Cond.fieldLink RX3 28 "NineMilesOff$Land" "his" "I", Cond.fieldLink RX3 31 "NineMilesOff$Land" "hers" "I", Cond.fieldLink RX3 34 "NineMilesOff$Land" "day" "I", Cond.methodLink RX3 87 yX3_cellBy, Cond.instanceMethod yX3_cellBy, Cond.selects RX3 yX3_cellBy yX3_cellBy, Cond.initialized RX3, Cond.code yX3_cellBy cX3_cellBy 4 (some .int), Cond.methodLink RX3 84 yX7_cellTo, Cond.static yX7_cellTo, Cond.initialized RX7, Cond.code yX7_cellTo cX7_cellTo 2 (some .int), Cond.static yX10_isCell, Cond.initialized RX10, Cond.code yX10_isCell cX10_isCell 2 (some .boolean), Cond.constantLong RX10 383 (36), Cond.methodLink RX3 60 yX3_isOpen, Cond.instanceMethod yX3_isOpen, Cond.selects RX3 yX3_isOpen yX3_isOpen, Cond.code yX3_isOpen cX3_isOpen 2 (some .boolean), Cond.fieldLink RX3 9 "NineMilesOff$Land" "kinds" "[I", Cond.fieldLink RX3 15 "NineMilesOff$Land" "figures" "[I", Cond.fieldLink RX3 18 "NineMilesOff$Land" "winter" "I", Cond.methodLink RX3 53 yX2_isOpen]
def wsX3_goDay_r2 : List Cond := [Cond.static yX2_isOpen, Cond.initialized RX2, Cond.code yX2_isOpen cX2_isOpen 3 (some .boolean), Cond.methodLink RX3 90 yX3_endDay, Cond.instanceMethod yX3_endDay, Cond.selects RX3 yX3_endDay yX3_endDay, Cond.code yX3_endDay cX3_endDay 4 none, Cond.fieldLink RX3 22 "NineMilesOff$Land" "nearest" "I", Cond.fieldLink RX3 37 "NineMilesOff$Land" "stopped" "I", Cond.fieldLink RX3 25 "NineMilesOff$Land" "farthest" "I", Cond.fieldLink RX3 40 "NineMilesOff$Land" "pain" "I", Cond.methodLink RX3 94 yX3_farBetween, Cond.instanceMethod yX3_farBetween, Cond.selects RX3 yX3_farBetween yX3_farBetween, Cond.code yX3_farBetween cX3_farBetween 3 (some .int), Cond.methodLink RX3 79 Lib.Math.abs.name, Cond.static Lib.Math.abs.name, Cond.initialized "java/lang/Math", Cond.code Lib.Math.abs.name Lib.Math.abs.code 1 (some .int), Cond.methodLink RX3 73 yX7_apart, Cond.static yX7_apart, Cond.code yX7_apart cX7_apart 2 (some .int), Cond.methodLink RX7 19 Lib.Math.abs.name, Cond.methodLink RX3 76 yX3_heightAt]
def wsX3_goDay_r3 : List Cond := [Cond.instanceMethod yX3_heightAt, Cond.selects RX3 yX3_heightAt yX3_heightAt, Cond.code yX3_heightAt cX3_heightAt 2 (some .int), Cond.methodLink RX3 49 yX2_heightOf, Cond.static yX2_heightOf, Cond.code yX2_heightOf cX2_heightOf 2 (some .int)]
def wsX3_goDay : List Cond := .code yX3_goDay cX3_goDay 5 (some .boolean) :: ((wsX3_goDay_r1 ++ (wsX3_goDay_r2 ++ wsX3_goDay_r3)) ++ wsX30)
def wsX4_init : List Cond := .code yX4_init cX4_init 1 none :: ([.methodLink RX4 3 objectInit, .instanceMethod objectInit, .code objectInit ⟨#[0xb1]⟩ 1 none, .arrayClass .int, .fieldLink RX4 9 "NineMilesOff$Play" "fars" "[I"] ++ wsX40)
def wsX4_lay_r1 : List Cond := [Cond.fieldLink RX4 15 "NineMilesOff$Land" "his" "I", Cond.fieldLink RX4 25 "NineMilesOff$Land" "hers" "I", Cond.fieldLink RX4 9 "NineMilesOff$Play" "fars" "[I", Cond.methodLink RX4 21 yX3_cellBy, Cond.instanceMethod yX3_cellBy, Cond.selects RX3 yX3_cellBy yX3_cellBy, Cond.initialized RX3, Cond.code yX3_cellBy cX3_cellBy 4 (some .int), Cond.methodLink RX3 84 yX7_cellTo, Cond.static yX7_cellTo, Cond.initialized RX7, Cond.code yX7_cellTo cX7_cellTo 2 (some .int), Cond.static yX10_isCell, Cond.initialized RX10, Cond.code yX10_isCell cX10_isCell 2 (some .boolean), Cond.constantLong RX10 383 (36), Cond.methodLink RX3 60 yX3_isOpen, Cond.instanceMethod yX3_isOpen, Cond.selects RX3 yX3_isOpen yX3_isOpen, Cond.code yX3_isOpen cX3_isOpen 2 (some .boolean), Cond.fieldLink RX3 9 "NineMilesOff$Land" "kinds" "[I", Cond.fieldLink RX3 15 "NineMilesOff$Land" "figures" "[I", Cond.fieldLink RX3 18 "NineMilesOff$Land" "winter" "I", Cond.methodLink RX3 53 yX2_isOpen]
def wsX4_lay_r2 : List Cond := [Cond.static yX2_isOpen, Cond.initialized RX2, Cond.code yX2_isOpen cX2_isOpen 3 (some .boolean), Cond.methodLink RX4 28 yX3_farBetween, Cond.instanceMethod yX3_farBetween, Cond.selects RX3 yX3_farBetween yX3_farBetween, Cond.code yX3_farBetween cX3_farBetween 3 (some .int), Cond.methodLink RX3 79 Lib.Math.abs.name, Cond.static Lib.Math.abs.name, Cond.initialized "java/lang/Math", Cond.code Lib.Math.abs.name Lib.Math.abs.code 1 (some .int), Cond.methodLink RX3 73 yX7_apart, Cond.static yX7_apart, Cond.code yX7_apart cX7_apart 2 (some .int), Cond.methodLink RX7 19 Lib.Math.abs.name, Cond.methodLink RX3 76 yX3_heightAt, Cond.instanceMethod yX3_heightAt, Cond.selects RX3 yX3_heightAt yX3_heightAt, Cond.code yX3_heightAt cX3_heightAt 2 (some .int), Cond.methodLink RX3 49 yX2_heightOf, Cond.static yX2_heightOf, Cond.code yX2_heightOf cX2_heightOf 2 (some .int)]
def wsX4_lay : List Cond := .code yX4_lay cX4_lay 7 none :: ((wsX4_lay_r1 ++ wsX4_lay_r2) ++ wsX30 ++ wsX40)
def wsX10_isWay : List Cond := .code yX10_isWay cX10_isWay 1 (some .boolean) :: ([])
def wsX4_farOf : List Cond := .code yX4_farOf cX4_farOf 3 (some .int) :: ([.fieldLink RX4 9 "NineMilesOff$Play" "fars" "[I", .static yX10_isWay, .initialized RX10, .code yX10_isWay cX10_isWay 1 (some .boolean)] ++ wsX40)
def wsX4_isHeld : List Cond := .code yX4_isHeld cX4_isHeld 7 (some .boolean) :: ([.methodLink RX4 35 yX4_farOf, .instanceMethod yX4_farOf, .selects RX4 yX4_farOf yX4_farOf, .initialized RX4, .code yX4_farOf cX4_farOf 3 (some .int), .fieldLink RX4 9 "NineMilesOff$Play" "fars" "[I", .static yX10_isWay, .initialized RX10, .code yX10_isWay cX10_isWay 1 (some .boolean)] ++ wsX40)
def wsX4_firstHeld : List Cond := .code yX4_firstHeld cX4_firstHeld 3 (some .int) :: ([.methodLink RX4 35 yX4_farOf, .instanceMethod yX4_farOf, .selects RX4 yX4_farOf yX4_farOf, .initialized RX4, .code yX4_farOf cX4_farOf 3 (some .int), .fieldLink RX4 9 "NineMilesOff$Play" "fars" "[I", .static yX10_isWay, .initialized RX10, .code yX10_isWay cX10_isWay 1 (some .boolean), .methodLink RX4 38 yX4_isHeld, .instanceMethod yX4_isHeld, .selects RX4 yX4_isHeld yX4_isHeld, .code yX4_isHeld cX4_isHeld 7 (some .boolean)] ++ wsX40)
def wsX4_worstOf : List Cond := .code yX4_worstOf cX4_worstOf 4 (some .int) :: ([.methodLink RX4 46 Lib.Math.max.name, .static Lib.Math.max.name, .initialized "java/lang/Math", .code Lib.Math.max.name Lib.Math.max.code 2 (some .int), .methodLink RX4 35 yX4_farOf, .instanceMethod yX4_farOf, .selects RX4 yX4_farOf yX4_farOf, .initialized RX4, .code yX4_farOf cX4_farOf 3 (some .int), .fieldLink RX4 9 "NineMilesOff$Play" "fars" "[I", .static yX10_isWay, .initialized RX10, .code yX10_isWay cX10_isWay 1 (some .boolean)] ++ wsX40)
def wsX4_leastSure : List Cond := .code yX4_leastSure cX4_leastSure 4 (some .int) :: ([.methodLink RX4 42 yX4_worstOf, .instanceMethod yX4_worstOf, .selects RX4 yX4_worstOf yX4_worstOf, .initialized RX4, .code yX4_worstOf cX4_worstOf 4 (some .int), .methodLink RX4 46 Lib.Math.max.name, .static Lib.Math.max.name, .initialized "java/lang/Math", .code Lib.Math.max.name Lib.Math.max.code 2 (some .int), .methodLink RX4 35 yX4_farOf, .instanceMethod yX4_farOf, .selects RX4 yX4_farOf yX4_farOf, .code yX4_farOf cX4_farOf 3 (some .int), .fieldLink RX4 9 "NineMilesOff$Play" "fars" "[I", .static yX10_isWay, .initialized RX10, .code yX10_isWay cX10_isWay 1 (some .boolean)] ++ wsX40)
def wsX5_init : List Cond := .code yX5_init cX5_init 1 none :: ([.methodLink RX5 3 objectInit, .instanceMethod objectInit, .code objectInit ⟨#[0xb1]⟩ 1 none, .fieldLink RX5 11 "NineMilesOff$Shelf" "holds" "I", .fieldLink RX5 15 "NineMilesOff$Shelf" "kind" "I", .fieldLink RX5 18 "NineMilesOff$Shelf" "figure" "I", .fieldLink RX5 21 "NineMilesOff$Shelf" "sort" "I", .fieldLink RX5 24 "NineMilesOff$Shelf" "size" "I", .arrayClass .long, .fieldLink RX5 27 "NineMilesOff$Shelf" "numbers" "[J"] ++ wsX50)
def wsX5_takeGround : List Cond := .code yX5_takeGround cX5_takeGround 3 none :: ([.fieldLink RX5 11 "NineMilesOff$Shelf" "holds" "I", .fieldLink RX5 15 "NineMilesOff$Shelf" "kind" "I", .fieldLink RX5 18 "NineMilesOff$Shelf" "figure" "I"] ++ wsX50)
def wsX5_takeRow : List Cond := .code yX5_takeRow cX5_takeRow 3 none :: ([.fieldLink RX5 11 "NineMilesOff$Shelf" "holds" "I", .fieldLink RX5 21 "NineMilesOff$Shelf" "sort" "I", .fieldLink RX5 24 "NineMilesOff$Shelf" "size" "I", .fieldLink RX5 27 "NineMilesOff$Shelf" "numbers" "[J", .methodLink RX5 31 yJ7_fill_d0a16, .static yJ7_fill_d0a16, .initialized RJ7, .code yJ7_fill_d0a16 cJ7_fill_d0a16 5 none] ++ wsX50)
def wsX5_hasPlace : List Cond := .code yX5_hasPlace cX5_hasPlace 2 (some .boolean) :: ([.fieldLink RX5 24 "NineMilesOff$Shelf" "size" "I"] ++ wsX50)
def wsX5_hasPlaces : List Cond := .code yX5_hasPlaces cX5_hasPlaces 3 (some .boolean) :: ([.fieldLink RX5 24 "NineMilesOff$Shelf" "size" "I"] ++ wsX50)
def wsX5_numberAt : List Cond := .code yX5_numberAt cX5_numberAt 2 (some .long) :: ([.fieldLink RX5 24 "NineMilesOff$Shelf" "size" "I", .fieldLink RX5 27 "NineMilesOff$Shelf" "numbers" "[J"] ++ wsX50)
def wsX5_write : List Cond := .code yX5_write cX5_write 3 none :: ([.fieldLink RX5 24 "NineMilesOff$Shelf" "size" "I", .fieldLink RX5 27 "NineMilesOff$Shelf" "numbers" "[J", .fieldLink RX5 21 "NineMilesOff$Shelf" "sort" "I"] ++ wsX50)
def wsX5_leastNumber : List Cond := .code yX5_leastNumber cX5_leastNumber 1 (some .long) :: ([.fieldLink RX5 21 "NineMilesOff$Shelf" "sort" "I", .constantLong RX5 37 (-128), .constantLong RX5 39 (-2147483648), .constantLong RX5 41 (-9223372036854775808)] ++ wsX50)
def wsX6_passableOf : List Cond := .code yX6_passableOf cX6_passableOf 7 (some .long) :: ([.methodLink RX6 46 yX7_has, .static yX7_has, .initialized RX7, .code yX7_has cX7_has 3 (some .boolean), .methodLink RX7 11 yX7_bit, .static yX7_bit, .code yX7_bit cX7_bit 1 (some .long), .methodLink RX6 50 yX7_bit])
def wsX7_stepsBetween : List Cond := .code yX7_stepsBetween cX7_stepsBetween 7 (some .int) :: ([.methodLink RX7 11 yX7_bit, .static yX7_bit, .initialized RX7, .code yX7_bit cX7_bit 1 (some .long), .methodLink RX7 15 yX7_has, .static yX7_has, .code yX7_has cX7_has 3 (some .boolean), .methodLink RX7 35 yX7_spread, .static yX7_spread, .code yX7_spread cX7_spread 4 (some .long), .constantLong RX7 29 (-1090785346), .constantLong RX7 31 (-34905131041), .constantLong RX7 33 (68719476735)])
def wsX6_weightOf : List Cond := .code yX6_weightOf cX6_weightOf 9 (some .long) :: ([.methodLink RX6 46 yX7_has, .static yX7_has, .initialized RX7, .code yX7_has cX7_has 3 (some .boolean), .methodLink RX7 11 yX7_bit, .static yX7_bit, .code yX7_bit cX7_bit 1 (some .long), .methodLink RX6 54 yX3_chanceAt, .instanceMethod yX3_chanceAt, .selects RX3 yX3_chanceAt yX3_chanceAt, .initialized RX3, .code yX3_chanceAt cX3_chanceAt 2 (some .int), .fieldLink RX3 9 "NineMilesOff$Land" "kinds" "[I", .fieldLink RX3 15 "NineMilesOff$Land" "figures" "[I", .static yX10_isCell, .initialized RX10, .code yX10_isCell cX10_isCell 2 (some .boolean), .constantLong RX10 383 (36), .methodLink RX3 57 yX2_chanceOf, .static yX2_chanceOf, .initialized RX2, .code yX2_chanceOf cX2_chanceOf 2 (some .int)] ++ wsX30)
def wsX6_likely_r1 : List Cond := [Cond.methodLink RX6 26 Lib.Math.min.name, Cond.static Lib.Math.min.name, Cond.initialized "java/lang/Math", Cond.code Lib.Math.min.name Lib.Math.min.code 2 (some .int), Cond.methodLink RX6 9 yX3_sureCells, Cond.instanceMethod yX3_sureCells, Cond.selects RX3 yX3_sureCells yX3_sureCells, Cond.initialized RX3, Cond.code yX3_sureCells cX3_sureCells 4 (some .long), Cond.methodLink RX3 69 yX3_chanceAt, Cond.instanceMethod yX3_chanceAt, Cond.selects RX3 yX3_chanceAt yX3_chanceAt, Cond.code yX3_chanceAt cX3_chanceAt 2 (some .int), Cond.fieldLink RX3 9 "NineMilesOff$Land" "kinds" "[I", Cond.fieldLink RX3 15 "NineMilesOff$Land" "figures" "[I", Cond.static yX10_isCell, Cond.initialized RX10, Cond.code yX10_isCell cX10_isCell 2 (some .boolean), Cond.constantLong RX10 383 (36), Cond.methodLink RX3 57 yX2_chanceOf, Cond.static yX2_chanceOf, Cond.initialized RX2, Cond.code yX2_chanceOf cX2_chanceOf 2 (some .int), Cond.methodLink RX3 63 yX7_bit]
def wsX6_likely_r2 : List Cond := [Cond.static yX7_bit, Cond.initialized RX7, Cond.code yX7_bit cX7_bit 1 (some .long), Cond.methodLink RX6 15 yX3_unsureCells, Cond.instanceMethod yX3_unsureCells, Cond.selects RX3 yX3_unsureCells yX3_unsureCells, Cond.code yX3_unsureCells cX3_unsureCells 4 (some .long), Cond.methodLink RX6 18 yJ13_bitCount_95d88, Cond.static yJ13_bitCount_95d88, Cond.initialized RJ13, Cond.code yJ13_bitCount_95d88 cJ13_bitCount_95d88 2 (some .int), Cond.constantLong RJ13 314 (6148914691236517205), Cond.constantLong RJ13 316 (3689348814741910323), Cond.constantLong RJ13 318 (1085102592571150095), Cond.methodLink RX6 32 yX6_passableOf, Cond.static yX6_passableOf, Cond.initialized RX6, Cond.code yX6_passableOf cX6_passableOf 7 (some .long), Cond.methodLink RX6 46 yX7_has, Cond.static yX7_has, Cond.code yX7_has cX7_has 3 (some .boolean), Cond.methodLink RX7 11 yX7_bit, Cond.methodLink RX6 50 yX7_bit, Cond.methodLink RX6 36 yX7_stepsBetween]
def wsX6_likely_r3 : List Cond := [Cond.static yX7_stepsBetween, Cond.code yX7_stepsBetween cX7_stepsBetween 7 (some .int), Cond.methodLink RX7 15 yX7_has, Cond.methodLink RX7 35 yX7_spread, Cond.static yX7_spread, Cond.code yX7_spread cX7_spread 4 (some .long), Cond.constantLong RX7 29 (-1090785346), Cond.constantLong RX7 31 (-34905131041), Cond.constantLong RX7 33 (68719476735), Cond.methodLink RX6 42 yX6_weightOf, Cond.static yX6_weightOf, Cond.code yX6_weightOf cX6_weightOf 9 (some .long), Cond.methodLink RX6 54 yX3_chanceAt]
def wsX6_likely : List Cond := .code yX6_likely cX6_likely 13 (some .long) :: ((wsX6_likely_r1 ++ (wsX6_likely_r2 ++ wsX6_likely_r3)) ++ wsX30)
def wsX7_leastOf : List Cond := .code yX7_leastOf cX7_leastOf 3 (some .int) :: ([.methodLink RX7 15 yX7_has, .static yX7_has, .initialized RX7, .code yX7_has cX7_has 3 (some .boolean), .methodLink RX7 11 yX7_bit, .static yX7_bit, .code yX7_bit cX7_bit 1 (some .long)])
def wsX7_cellsWithin : List Cond := .code yX7_cellsWithin cX7_cellsWithin 7 (some .long) :: ([.methodLink RX7 11 yX7_bit, .static yX7_bit, .initialized RX7, .code yX7_bit cX7_bit 1 (some .long), .methodLink RX7 35 yX7_spread, .static yX7_spread, .code yX7_spread cX7_spread 4 (some .long), .constantLong RX7 29 (-1090785346), .constantLong RX7 31 (-34905131041), .constantLong RX7 33 (68719476735)])
def wsX7_islandOf : List Cond := .code yX7_islandOf cX7_islandOf 3 (some .long) :: ([.methodLink RX7 39 yX7_cellsWithin, .static yX7_cellsWithin, .initialized RX7, .code yX7_cellsWithin cX7_cellsWithin 7 (some .long), .methodLink RX7 11 yX7_bit, .static yX7_bit, .code yX7_bit cX7_bit 1 (some .long), .methodLink RX7 35 yX7_spread, .static yX7_spread, .code yX7_spread cX7_spread 4 (some .long), .constantLong RX7 29 (-1090785346), .constantLong RX7 31 (-34905131041), .constantLong RX7 33 (68719476735)])
def wsX7_islandsOf : List Cond := .code yX7_islandsOf cX7_islandsOf 6 (some .int) :: ([.constantLong RX7 47 (-1), .methodLink RX7 15 yX7_has, .static yX7_has, .initialized RX7, .code yX7_has cX7_has 3 (some .boolean), .methodLink RX7 11 yX7_bit, .static yX7_bit, .code yX7_bit cX7_bit 1 (some .long), .methodLink RX7 43 yX7_islandOf, .static yX7_islandOf, .code yX7_islandOf cX7_islandOf 3 (some .long), .methodLink RX7 39 yX7_cellsWithin, .static yX7_cellsWithin, .code yX7_cellsWithin cX7_cellsWithin 7 (some .long), .methodLink RX7 35 yX7_spread, .static yX7_spread, .code yX7_spread cX7_spread 4 (some .long), .constantLong RX7 29 (-1090785346), .constantLong RX7 31 (-34905131041), .constantLong RX7 33 (68719476735)])
def wsX7_largestIsland_r1 : List Cond := [Cond.constantLong RX7 47 (-1), Cond.methodLink RX7 15 yX7_has, Cond.static yX7_has, Cond.initialized RX7, Cond.code yX7_has cX7_has 3 (some .boolean), Cond.methodLink RX7 11 yX7_bit, Cond.static yX7_bit, Cond.code yX7_bit cX7_bit 1 (some .long), Cond.methodLink RX7 43 yX7_islandOf, Cond.static yX7_islandOf, Cond.code yX7_islandOf cX7_islandOf 3 (some .long), Cond.methodLink RX7 39 yX7_cellsWithin, Cond.static yX7_cellsWithin, Cond.code yX7_cellsWithin cX7_cellsWithin 7 (some .long), Cond.methodLink RX7 35 yX7_spread, Cond.static yX7_spread, Cond.code yX7_spread cX7_spread 4 (some .long), Cond.constantLong RX7 29 (-1090785346), Cond.constantLong RX7 31 (-34905131041), Cond.constantLong RX7 33 (68719476735), Cond.methodLink RX7 49 yJ13_bitCount_95d88, Cond.static yJ13_bitCount_95d88, Cond.initialized RJ13, Cond.code yJ13_bitCount_95d88 cJ13_bitCount_95d88 2 (some .int)]
def wsX7_largestIsland_r2 : List Cond := [Cond.constantLong RJ13 314 (6148914691236517205), Cond.constantLong RJ13 316 (3689348814741910323), Cond.constantLong RJ13 318 (1085102592571150095)]
def wsX7_largestIsland : List Cond := .code yX7_largestIsland cX7_largestIsland 9 (some .long) :: ((wsX7_largestIsland_r1 ++ wsX7_largestIsland_r2))
def wsX7_greatestSteps : List Cond := .code yX7_greatestSteps cX7_greatestSteps 8 (some .int) :: ([.methodLink RX7 11 yX7_bit, .static yX7_bit, .initialized RX7, .code yX7_bit cX7_bit 1 (some .long), .methodLink RX7 35 yX7_spread, .static yX7_spread, .code yX7_spread cX7_spread 4 (some .long), .constantLong RX7 29 (-1090785346), .constantLong RX7 31 (-34905131041), .constantLong RX7 33 (68719476735)])
def wsX7_middleOf_r1 : List Cond := [Cond.methodLink RX7 55 yX7_largestIsland, Cond.static yX7_largestIsland, Cond.initialized RX7, Cond.code yX7_largestIsland cX7_largestIsland 9 (some .long), Cond.constantLong RX7 47 (-1), Cond.methodLink RX7 15 yX7_has, Cond.static yX7_has, Cond.code yX7_has cX7_has 3 (some .boolean), Cond.methodLink RX7 11 yX7_bit, Cond.static yX7_bit, Cond.code yX7_bit cX7_bit 1 (some .long), Cond.methodLink RX7 43 yX7_islandOf, Cond.static yX7_islandOf, Cond.code yX7_islandOf cX7_islandOf 3 (some .long), Cond.methodLink RX7 39 yX7_cellsWithin, Cond.static yX7_cellsWithin, Cond.code yX7_cellsWithin cX7_cellsWithin 7 (some .long), Cond.methodLink RX7 35 yX7_spread, Cond.static yX7_spread, Cond.code yX7_spread cX7_spread 4 (some .long), Cond.constantLong RX7 29 (-1090785346), Cond.constantLong RX7 31 (-34905131041), Cond.constantLong RX7 33 (68719476735), Cond.methodLink RX7 49 yJ13_bitCount_95d88]
def wsX7_middleOf_r2 : List Cond := [Cond.static yJ13_bitCount_95d88, Cond.initialized RJ13, Cond.code yJ13_bitCount_95d88 cJ13_bitCount_95d88 2 (some .int), Cond.constantLong RJ13 314 (6148914691236517205), Cond.constantLong RJ13 316 (3689348814741910323), Cond.constantLong RJ13 318 (1085102592571150095), Cond.methodLink RX7 58 yX7_greatestSteps, Cond.static yX7_greatestSteps, Cond.code yX7_greatestSteps cX7_greatestSteps 8 (some .int)]
def wsX7_middleOf : List Cond := .code yX7_middleOf cX7_middleOf 8 (some .int) :: ((wsX7_middleOf_r1 ++ wsX7_middleOf_r2))
def wsX8_digitsBehind : List Cond := .code yX8_digitsBehind cX8_digitsBehind 2 (some .int) :: ([])
def wsX8_firstWrongByte : List Cond := .code yX8_firstWrongByte cX8_firstWrongByte 5 (some .int) :: ([.fieldLink RX8 11 "NineMilesOff$Shelf" "size" "I", .constantLong RX8 25 (59), .constantLong RX8 27 (48), .constantLong RX8 29 (57), .methodLink RX8 17 yX5_numberAt, .instanceMethod yX5_numberAt, .selects RX5 yX5_numberAt yX5_numberAt, .initialized RX5, .code yX5_numberAt cX5_numberAt 2 (some .long), .fieldLink RX5 24 "NineMilesOff$Shelf" "size" "I", .fieldLink RX5 27 "NineMilesOff$Shelf" "numbers" "[J", .methodLink RX8 21 yX8_digitsBehind, .static yX8_digitsBehind, .initialized RX8, .code yX8_digitsBehind cX8_digitsBehind 2 (some .int)] ++ wsX50)
def wsX8_statementsOf : List Cond := .code yX8_statementsOf cX8_statementsOf 3 (some .int) :: ([.fieldLink RX8 11 "NineMilesOff$Shelf" "size" "I", .constantLong RX8 25 (59), .methodLink RX8 17 yX5_numberAt, .instanceMethod yX5_numberAt, .selects RX5 yX5_numberAt yX5_numberAt, .initialized RX5, .code yX5_numberAt cX5_numberAt 2 (some .long), .fieldLink RX5 24 "NineMilesOff$Shelf" "size" "I", .fieldLink RX5 27 "NineMilesOff$Shelf" "numbers" "[J"] ++ wsX50)
def wsX8_digitAt : List Cond := .code yX8_digitAt cX8_digitAt 2 (some .int) :: ([.methodLink RX8 17 yX5_numberAt, .instanceMethod yX5_numberAt, .selects RX5 yX5_numberAt yX5_numberAt, .initialized RX5, .code yX5_numberAt cX5_numberAt 2 (some .long), .fieldLink RX5 24 "NineMilesOff$Shelf" "size" "I", .fieldLink RX5 27 "NineMilesOff$Shelf" "numbers" "[J"] ++ wsX50)
def wsX8_twoDigitsAt : List Cond := .code yX8_twoDigitsAt cX8_twoDigitsAt 2 (some .int) :: ([.methodLink RX8 35 yX8_digitAt, .static yX8_digitAt, .initialized RX8, .code yX8_digitAt cX8_digitAt 2 (some .int), .methodLink RX8 17 yX5_numberAt, .instanceMethod yX5_numberAt, .selects RX5 yX5_numberAt yX5_numberAt, .initialized RX5, .code yX5_numberAt cX5_numberAt 2 (some .long), .fieldLink RX5 24 "NineMilesOff$Shelf" "size" "I", .fieldLink RX5 27 "NineMilesOff$Shelf" "numbers" "[J"] ++ wsX50)
def wsX8_isLaid_r1 : List Cond := [Cond.methodLink RX8 35 yX8_digitAt, Cond.static yX8_digitAt, Cond.initialized RX8, Cond.code yX8_digitAt cX8_digitAt 2 (some .int), Cond.methodLink RX8 17 yX5_numberAt, Cond.instanceMethod yX5_numberAt, Cond.selects RX5 yX5_numberAt yX5_numberAt, Cond.initialized RX5, Cond.code yX5_numberAt cX5_numberAt 2 (some .long), Cond.fieldLink RX5 24 "NineMilesOff$Shelf" "size" "I", Cond.fieldLink RX5 27 "NineMilesOff$Shelf" "numbers" "[J", Cond.methodLink RX8 42 yX8_twoDigitsAt, Cond.static yX8_twoDigitsAt, Cond.code yX8_twoDigitsAt cX8_twoDigitsAt 2 (some .int), Cond.methodLink RX8 62 yX2_isKind, Cond.static yX2_isKind, Cond.initialized RX2, Cond.code yX2_isKind cX2_isKind 1 (some .boolean), Cond.static yX10_isCell, Cond.initialized RX10, Cond.code yX10_isCell cX10_isCell 2 (some .boolean), Cond.constantLong RX10 383 (36), Cond.methodLink RX8 72 yX3_layAt, Cond.instanceMethod yX3_layAt]
def wsX8_isLaid_r2 : List Cond := [Cond.selects RX3 yX3_layAt yX3_layAt, Cond.initialized RX3, Cond.code yX3_layAt cX3_layAt 4 none, Cond.fieldLink RX3 9 "NineMilesOff$Land" "kinds" "[I", Cond.fieldLink RX3 15 "NineMilesOff$Land" "figures" "[I"]
def wsX8_isLaid : List Cond := .code yX8_isLaid cX8_isLaid 5 (some .boolean) :: ((wsX8_isLaid_r1 ++ wsX8_isLaid_r2) ++ wsX50 ++ wsX30)
def wsX8_isPlaced : List Cond := .code yX8_isPlaced cX8_isPlaced 3 (some .boolean) :: ([.methodLink RX8 76 yX3_isOpen, .instanceMethod yX3_isOpen, .selects RX3 yX3_isOpen yX3_isOpen, .initialized RX3, .code yX3_isOpen cX3_isOpen 2 (some .boolean), .fieldLink RX3 9 "NineMilesOff$Land" "kinds" "[I", .fieldLink RX3 15 "NineMilesOff$Land" "figures" "[I", .fieldLink RX3 18 "NineMilesOff$Land" "winter" "I", .static yX10_isCell, .initialized RX10, .code yX10_isCell cX10_isCell 2 (some .boolean), .constantLong RX10 383 (36), .methodLink RX3 53 yX2_isOpen, .static yX2_isOpen, .initialized RX2, .code yX2_isOpen cX2_isOpen 3 (some .boolean), .methodLink RX8 79 yX3_place, .instanceMethod yX3_place, .selects RX3 yX3_place yX3_place, .code yX3_place cX3_place 3 none, .fieldLink RX3 28 "NineMilesOff$Land" "his" "I", .fieldLink RX3 31 "NineMilesOff$Land" "hers" "I"] ++ wsX30)
def wsX10_isDistance : List Cond := .code yX10_isDistance cX10_isDistance 1 (some .boolean) :: ([])
def wsX8_isBound : List Cond := .code yX8_isBound cX8_isBound 5 (some .boolean) :: ([.fieldLink RX8 86 "NineMilesOff$Land" "nearest" "I", .fieldLink RX8 89 "NineMilesOff$Land" "farthest" "I", .methodLink RX8 42 yX8_twoDigitsAt, .static yX8_twoDigitsAt, .initialized RX8, .code yX8_twoDigitsAt cX8_twoDigitsAt 2 (some .int), .methodLink RX8 35 yX8_digitAt, .static yX8_digitAt, .code yX8_digitAt cX8_digitAt 2 (some .int), .methodLink RX8 17 yX5_numberAt, .instanceMethod yX5_numberAt, .selects RX5 yX5_numberAt yX5_numberAt, .initialized RX5, .code yX5_numberAt cX5_numberAt 2 (some .long), .fieldLink RX5 24 "NineMilesOff$Shelf" "size" "I", .fieldLink RX5 27 "NineMilesOff$Shelf" "numbers" "[J", .static yX10_isDistance, .initialized RX10, .code yX10_isDistance cX10_isDistance 1 (some .boolean)] ++ wsX30 ++ wsX50)
def wsX10_isEither : List Cond := .code yX10_isEither cX10_isEither 1 (some .boolean) :: ([])
def wsX8_isWintered : List Cond := .code yX8_isWintered cX8_isWintered 2 (some .boolean) :: ([.fieldLink RX8 95 "NineMilesOff$Land" "winter" "I", .static yX10_isEither, .initialized RX10, .code yX10_isEither cX10_isEither 1 (some .boolean)] ++ wsX30)
def wsX8_isDone_r1 : List Cond := [Cond.methodLink RX8 17 yX5_numberAt, Cond.instanceMethod yX5_numberAt, Cond.selects RX5 yX5_numberAt yX5_numberAt, Cond.initialized RX5, Cond.code yX5_numberAt cX5_numberAt 2 (some .long), Cond.fieldLink RX5 24 "NineMilesOff$Shelf" "size" "I", Cond.fieldLink RX5 27 "NineMilesOff$Shelf" "numbers" "[J", Cond.methodLink RX8 39 yX8_isLaid, Cond.static yX8_isLaid, Cond.initialized RX8, Cond.code yX8_isLaid cX8_isLaid 5 (some .boolean), Cond.methodLink RX8 35 yX8_digitAt, Cond.static yX8_digitAt, Cond.code yX8_digitAt cX8_digitAt 2 (some .int), Cond.methodLink RX8 42 yX8_twoDigitsAt, Cond.static yX8_twoDigitsAt, Cond.code yX8_twoDigitsAt cX8_twoDigitsAt 2 (some .int), Cond.methodLink RX8 62 yX2_isKind, Cond.static yX2_isKind, Cond.initialized RX2, Cond.code yX2_isKind cX2_isKind 1 (some .boolean), Cond.static yX10_isCell, Cond.initialized RX10, Cond.code yX10_isCell cX10_isCell 2 (some .boolean)]
def wsX8_isDone_r2 : List Cond := [Cond.constantLong RX10 383 (36), Cond.methodLink RX8 72 yX3_layAt, Cond.instanceMethod yX3_layAt, Cond.selects RX3 yX3_layAt yX3_layAt, Cond.initialized RX3, Cond.code yX3_layAt cX3_layAt 4 none, Cond.fieldLink RX3 9 "NineMilesOff$Land" "kinds" "[I", Cond.fieldLink RX3 15 "NineMilesOff$Land" "figures" "[I", Cond.methodLink RX8 45 yX8_isPlaced, Cond.static yX8_isPlaced, Cond.code yX8_isPlaced cX8_isPlaced 3 (some .boolean), Cond.methodLink RX8 76 yX3_isOpen, Cond.instanceMethod yX3_isOpen, Cond.selects RX3 yX3_isOpen yX3_isOpen, Cond.code yX3_isOpen cX3_isOpen 2 (some .boolean), Cond.fieldLink RX3 18 "NineMilesOff$Land" "winter" "I", Cond.methodLink RX3 53 yX2_isOpen, Cond.static yX2_isOpen, Cond.code yX2_isOpen cX2_isOpen 3 (some .boolean), Cond.methodLink RX8 79 yX3_place, Cond.instanceMethod yX3_place, Cond.selects RX3 yX3_place yX3_place, Cond.code yX3_place cX3_place 3 none, Cond.fieldLink RX3 28 "NineMilesOff$Land" "his" "I"]
def wsX8_isDone_r3 : List Cond := [Cond.fieldLink RX3 31 "NineMilesOff$Land" "hers" "I", Cond.methodLink RX8 49 yX8_isBound, Cond.static yX8_isBound, Cond.code yX8_isBound cX8_isBound 5 (some .boolean), Cond.fieldLink RX8 86 "NineMilesOff$Land" "nearest" "I", Cond.fieldLink RX8 89 "NineMilesOff$Land" "farthest" "I", Cond.static yX10_isDistance, Cond.code yX10_isDistance cX10_isDistance 1 (some .boolean), Cond.methodLink RX8 52 yX8_isWintered, Cond.static yX8_isWintered, Cond.code yX8_isWintered cX8_isWintered 2 (some .boolean), Cond.fieldLink RX8 95 "NineMilesOff$Land" "winter" "I", Cond.static yX10_isEither, Cond.code yX10_isEither cX10_isEither 1 (some .boolean), Cond.methodLink RX8 56 yX3_goDay, Cond.instanceMethod yX3_goDay, Cond.selects RX3 yX3_goDay yX3_goDay, Cond.code yX3_goDay cX3_goDay 5 (some .boolean), Cond.fieldLink RX3 34 "NineMilesOff$Land" "day" "I", Cond.methodLink RX3 87 yX3_cellBy, Cond.instanceMethod yX3_cellBy, Cond.selects RX3 yX3_cellBy yX3_cellBy, Cond.code yX3_cellBy cX3_cellBy 4 (some .int), Cond.methodLink RX3 84 yX7_cellTo]
def wsX8_isDone_r4 : List Cond := [Cond.static yX7_cellTo, Cond.initialized RX7, Cond.code yX7_cellTo cX7_cellTo 2 (some .int), Cond.methodLink RX3 60 yX3_isOpen, Cond.methodLink RX3 90 yX3_endDay, Cond.instanceMethod yX3_endDay, Cond.selects RX3 yX3_endDay yX3_endDay, Cond.code yX3_endDay cX3_endDay 4 none, Cond.fieldLink RX3 22 "NineMilesOff$Land" "nearest" "I", Cond.fieldLink RX3 37 "NineMilesOff$Land" "stopped" "I", Cond.fieldLink RX3 25 "NineMilesOff$Land" "farthest" "I", Cond.fieldLink RX3 40 "NineMilesOff$Land" "pain" "I", Cond.methodLink RX3 94 yX3_farBetween, Cond.instanceMethod yX3_farBetween, Cond.selects RX3 yX3_farBetween yX3_farBetween, Cond.code yX3_farBetween cX3_farBetween 3 (some .int), Cond.methodLink RX3 79 Lib.Math.abs.name, Cond.static Lib.Math.abs.name, Cond.initialized "java/lang/Math", Cond.code Lib.Math.abs.name Lib.Math.abs.code 1 (some .int), Cond.methodLink RX3 73 yX7_apart, Cond.static yX7_apart, Cond.code yX7_apart cX7_apart 2 (some .int), Cond.methodLink RX7 19 Lib.Math.abs.name]
def wsX8_isDone_r5 : List Cond := [Cond.methodLink RX3 76 yX3_heightAt, Cond.instanceMethod yX3_heightAt, Cond.selects RX3 yX3_heightAt yX3_heightAt, Cond.code yX3_heightAt cX3_heightAt 2 (some .int), Cond.methodLink RX3 49 yX2_heightOf, Cond.static yX2_heightOf, Cond.code yX2_heightOf cX2_heightOf 2 (some .int)]
def wsX8_isDone : List Cond := .code yX8_isDone cX8_isDone 3 (some .boolean) :: ((wsX8_isDone_r1 ++ (wsX8_isDone_r2 ++ (wsX8_isDone_r3 ++ (wsX8_isDone_r4 ++ wsX8_isDone_r5)))) ++ wsX50 ++ wsX30)
def wsX8_firstNotDone_r1 : List Cond := [Cond.fieldLink RX8 11 "NineMilesOff$Shelf" "size" "I", Cond.constantLong RX8 25 (59), Cond.methodLink RX8 17 yX5_numberAt, Cond.instanceMethod yX5_numberAt, Cond.selects RX5 yX5_numberAt yX5_numberAt, Cond.initialized RX5, Cond.code yX5_numberAt cX5_numberAt 2 (some .long), Cond.fieldLink RX5 24 "NineMilesOff$Shelf" "size" "I", Cond.fieldLink RX5 27 "NineMilesOff$Shelf" "numbers" "[J", Cond.methodLink RX8 31 yX8_isDone, Cond.static yX8_isDone, Cond.initialized RX8, Cond.code yX8_isDone cX8_isDone 3 (some .boolean), Cond.methodLink RX8 39 yX8_isLaid, Cond.static yX8_isLaid, Cond.code yX8_isLaid cX8_isLaid 5 (some .boolean), Cond.methodLink RX8 35 yX8_digitAt, Cond.static yX8_digitAt, Cond.code yX8_digitAt cX8_digitAt 2 (some .int), Cond.methodLink RX8 42 yX8_twoDigitsAt, Cond.static yX8_twoDigitsAt, Cond.code yX8_twoDigitsAt cX8_twoDigitsAt 2 (some .int), Cond.methodLink RX8 62 yX2_isKind, Cond.static yX2_isKind]
def wsX8_firstNotDone_r2 : List Cond := [Cond.initialized RX2, Cond.code yX2_isKind cX2_isKind 1 (some .boolean), Cond.static yX10_isCell, Cond.initialized RX10, Cond.code yX10_isCell cX10_isCell 2 (some .boolean), Cond.constantLong RX10 383 (36), Cond.methodLink RX8 72 yX3_layAt, Cond.instanceMethod yX3_layAt, Cond.selects RX3 yX3_layAt yX3_layAt, Cond.initialized RX3, Cond.code yX3_layAt cX3_layAt 4 none, Cond.fieldLink RX3 9 "NineMilesOff$Land" "kinds" "[I", Cond.fieldLink RX3 15 "NineMilesOff$Land" "figures" "[I", Cond.methodLink RX8 45 yX8_isPlaced, Cond.static yX8_isPlaced, Cond.code yX8_isPlaced cX8_isPlaced 3 (some .boolean), Cond.methodLink RX8 76 yX3_isOpen, Cond.instanceMethod yX3_isOpen, Cond.selects RX3 yX3_isOpen yX3_isOpen, Cond.code yX3_isOpen cX3_isOpen 2 (some .boolean), Cond.fieldLink RX3 18 "NineMilesOff$Land" "winter" "I", Cond.methodLink RX3 53 yX2_isOpen, Cond.static yX2_isOpen, Cond.code yX2_isOpen cX2_isOpen 3 (some .boolean)]
def wsX8_firstNotDone_r3 : List Cond := [Cond.methodLink RX8 79 yX3_place, Cond.instanceMethod yX3_place, Cond.selects RX3 yX3_place yX3_place, Cond.code yX3_place cX3_place 3 none, Cond.fieldLink RX3 28 "NineMilesOff$Land" "his" "I", Cond.fieldLink RX3 31 "NineMilesOff$Land" "hers" "I", Cond.methodLink RX8 49 yX8_isBound, Cond.static yX8_isBound, Cond.code yX8_isBound cX8_isBound 5 (some .boolean), Cond.fieldLink RX8 86 "NineMilesOff$Land" "nearest" "I", Cond.fieldLink RX8 89 "NineMilesOff$Land" "farthest" "I", Cond.static yX10_isDistance, Cond.code yX10_isDistance cX10_isDistance 1 (some .boolean), Cond.methodLink RX8 52 yX8_isWintered, Cond.static yX8_isWintered, Cond.code yX8_isWintered cX8_isWintered 2 (some .boolean), Cond.fieldLink RX8 95 "NineMilesOff$Land" "winter" "I", Cond.static yX10_isEither, Cond.code yX10_isEither cX10_isEither 1 (some .boolean), Cond.methodLink RX8 56 yX3_goDay, Cond.instanceMethod yX3_goDay, Cond.selects RX3 yX3_goDay yX3_goDay, Cond.code yX3_goDay cX3_goDay 5 (some .boolean), Cond.fieldLink RX3 34 "NineMilesOff$Land" "day" "I"]
def wsX8_firstNotDone_r4 : List Cond := [Cond.methodLink RX3 87 yX3_cellBy, Cond.instanceMethod yX3_cellBy, Cond.selects RX3 yX3_cellBy yX3_cellBy, Cond.code yX3_cellBy cX3_cellBy 4 (some .int), Cond.methodLink RX3 84 yX7_cellTo, Cond.static yX7_cellTo, Cond.initialized RX7, Cond.code yX7_cellTo cX7_cellTo 2 (some .int), Cond.methodLink RX3 60 yX3_isOpen, Cond.methodLink RX3 90 yX3_endDay, Cond.instanceMethod yX3_endDay, Cond.selects RX3 yX3_endDay yX3_endDay, Cond.code yX3_endDay cX3_endDay 4 none, Cond.fieldLink RX3 22 "NineMilesOff$Land" "nearest" "I", Cond.fieldLink RX3 37 "NineMilesOff$Land" "stopped" "I", Cond.fieldLink RX3 25 "NineMilesOff$Land" "farthest" "I", Cond.fieldLink RX3 40 "NineMilesOff$Land" "pain" "I", Cond.methodLink RX3 94 yX3_farBetween, Cond.instanceMethod yX3_farBetween, Cond.selects RX3 yX3_farBetween yX3_farBetween, Cond.code yX3_farBetween cX3_farBetween 3 (some .int), Cond.methodLink RX3 79 Lib.Math.abs.name, Cond.static Lib.Math.abs.name, Cond.initialized "java/lang/Math"]
def wsX8_firstNotDone_r5 : List Cond := [Cond.code Lib.Math.abs.name Lib.Math.abs.code 1 (some .int), Cond.methodLink RX3 73 yX7_apart, Cond.static yX7_apart, Cond.code yX7_apart cX7_apart 2 (some .int), Cond.methodLink RX7 19 Lib.Math.abs.name, Cond.methodLink RX3 76 yX3_heightAt, Cond.instanceMethod yX3_heightAt, Cond.selects RX3 yX3_heightAt yX3_heightAt, Cond.code yX3_heightAt cX3_heightAt 2 (some .int), Cond.methodLink RX3 49 yX2_heightOf, Cond.static yX2_heightOf, Cond.code yX2_heightOf cX2_heightOf 2 (some .int)]
def wsX8_firstNotDone : List Cond := .code yX8_firstNotDone cX8_firstNotDone 4 (some .int) :: ((wsX8_firstNotDone_r1 ++ (wsX8_firstNotDone_r2 ++ (wsX8_firstNotDone_r3 ++ (wsX8_firstNotDone_r4 ++ wsX8_firstNotDone_r5)))) ++ wsX50 ++ wsX30)
def wsX9_init : List Cond := .code yX9_init cX9_init 1 none :: ([.methodLink RX9 3 objectInit, .instanceMethod objectInit, .code objectInit ⟨#[0xb1]⟩ 1 none, .arrayClass .long, .fieldLink RX9 9 "NineMilesOff$Track" "hers" "[J", .fieldLink RX9 15 "NineMilesOff$Track" "left" "[J", .fieldLink RX9 18 "NineMilesOff$Track" "leftThen" "[J"] ++ wsX90)
def wsX9_isOfCells : List Cond := .code yX9_isOfCells cX9_isOfCells 2 (some .boolean) :: ([.fieldLink RX9 21 "NineMilesOff$Shelf" "size" "I", .methodLink RX9 27 yX5_numberAt, .instanceMethod yX5_numberAt, .selects RX5 yX5_numberAt yX5_numberAt, .initialized RX5, .code yX5_numberAt cX5_numberAt 2 (some .long), .fieldLink RX5 24 "NineMilesOff$Shelf" "size" "I", .fieldLink RX5 27 "NineMilesOff$Shelf" "numbers" "[J", .static yX10_isCell, .initialized RX10, .code yX10_isCell cX10_isCell 2 (some .boolean), .constantLong RX10 383 (36)] ++ wsX50)
def wsX9_firstWrongPlace_r1 : List Cond := [Cond.fieldLink RX9 41 "NineMilesOff$Land" "his" "I", Cond.fieldLink RX9 21 "NineMilesOff$Shelf" "size" "I", Cond.methodLink RX9 35 yX3_openCells, Cond.instanceMethod yX3_openCells, Cond.selects RX3 yX3_openCells yX3_openCells, Cond.initialized RX3, Cond.code yX3_openCells cX3_openCells 4 (some .long), Cond.methodLink RX3 60 yX3_isOpen, Cond.instanceMethod yX3_isOpen, Cond.selects RX3 yX3_isOpen yX3_isOpen, Cond.code yX3_isOpen cX3_isOpen 2 (some .boolean), Cond.fieldLink RX3 9 "NineMilesOff$Land" "kinds" "[I", Cond.fieldLink RX3 15 "NineMilesOff$Land" "figures" "[I", Cond.fieldLink RX3 18 "NineMilesOff$Land" "winter" "I", Cond.static yX10_isCell, Cond.initialized RX10, Cond.code yX10_isCell cX10_isCell 2 (some .boolean), Cond.constantLong RX10 383 (36), Cond.methodLink RX3 53 yX2_isOpen, Cond.static yX2_isOpen, Cond.initialized RX2, Cond.code yX2_isOpen cX2_isOpen 3 (some .boolean), Cond.methodLink RX3 63 yX7_bit, Cond.static yX7_bit]
def wsX9_firstWrongPlace_r2 : List Cond := [Cond.initialized RX7, Cond.code yX7_bit cX7_bit 1 (some .long), Cond.methodLink RX9 44 yX7_bit, Cond.methodLink RX9 27 yX5_numberAt, Cond.instanceMethod yX5_numberAt, Cond.selects RX5 yX5_numberAt yX5_numberAt, Cond.initialized RX5, Cond.code yX5_numberAt cX5_numberAt 2 (some .long), Cond.fieldLink RX5 24 "NineMilesOff$Shelf" "size" "I", Cond.fieldLink RX5 27 "NineMilesOff$Shelf" "numbers" "[J", Cond.methodLink RX9 49 yX7_spread, Cond.static yX7_spread, Cond.code yX7_spread cX7_spread 4 (some .long), Cond.constantLong RX7 29 (-1090785346), Cond.constantLong RX7 31 (-34905131041), Cond.constantLong RX7 33 (68719476735), Cond.methodLink RX9 53 yX5_leastNumber, Cond.instanceMethod yX5_leastNumber, Cond.selects RX5 yX5_leastNumber yX5_leastNumber, Cond.code yX5_leastNumber cX5_leastNumber 1 (some .long), Cond.fieldLink RX5 21 "NineMilesOff$Shelf" "sort" "I", Cond.constantLong RX5 37 (-128), Cond.constantLong RX5 39 (-2147483648), Cond.constantLong RX5 41 (-9223372036854775808)]
def wsX9_firstWrongPlace : List Cond := .code yX9_firstWrongPlace cX9_firstWrongPlace 11 (some .int) :: ((wsX9_firstWrongPlace_r1 ++ wsX9_firstWrongPlace_r2) ++ wsX30 ++ wsX50)
def wsX9_fitOn : List Cond := .code yX9_fitOn cX9_fitOn 5 (some .long) :: ([.methodLink RX9 27 yX5_numberAt, .instanceMethod yX5_numberAt, .selects RX5 yX5_numberAt yX5_numberAt, .initialized RX5, .code yX5_numberAt cX5_numberAt 2 (some .long), .fieldLink RX5 24 "NineMilesOff$Shelf" "size" "I", .fieldLink RX5 27 "NineMilesOff$Shelf" "numbers" "[J", .methodLink RX9 56 yX0_nearOf, .instanceMethod yX0_nearOf, .selects RX0 yX0_nearOf yX0_nearOf, .initialized RX0, .code yX0_nearOf cX0_nearOf 2 (some .long), .fieldLink RX0 18 "NineMilesOff$Board" "near" "[J", .static yX10_isCell, .initialized RX10, .code yX10_isCell cX10_isCell 2 (some .boolean), .constantLong RX10 383 (36)] ++ wsX50 ++ wsX00)
def wsX9_follow_r1 : List Cond := [Cond.fieldLink RX9 21 "NineMilesOff$Shelf" "size" "I", Cond.fieldLink RX9 9 "NineMilesOff$Track" "hers" "[J", Cond.methodLink RX9 49 yX7_spread, Cond.static yX7_spread, Cond.initialized RX7, Cond.code yX7_spread cX7_spread 4 (some .long), Cond.constantLong RX7 29 (-1090785346), Cond.constantLong RX7 31 (-34905131041), Cond.constantLong RX7 33 (68719476735), Cond.methodLink RX9 61 yX9_fitOn, Cond.static yX9_fitOn, Cond.initialized RX9, Cond.code yX9_fitOn cX9_fitOn 5 (some .long), Cond.methodLink RX9 27 yX5_numberAt, Cond.instanceMethod yX5_numberAt, Cond.selects RX5 yX5_numberAt yX5_numberAt, Cond.initialized RX5, Cond.code yX5_numberAt cX5_numberAt 2 (some .long), Cond.fieldLink RX5 24 "NineMilesOff$Shelf" "size" "I", Cond.fieldLink RX5 27 "NineMilesOff$Shelf" "numbers" "[J", Cond.methodLink RX9 56 yX0_nearOf, Cond.instanceMethod yX0_nearOf, Cond.selects RX0 yX0_nearOf yX0_nearOf, Cond.initialized RX0]
def wsX9_follow_r2 : List Cond := [Cond.code yX0_nearOf cX0_nearOf 2 (some .long), Cond.fieldLink RX0 18 "NineMilesOff$Board" "near" "[J", Cond.static yX10_isCell, Cond.initialized RX10, Cond.code yX10_isCell cX10_isCell 2 (some .boolean), Cond.constantLong RX10 383 (36)]
def wsX9_follow : List Cond := .code yX9_follow cX9_follow 8 (some .long) :: ((wsX9_follow_r1 ++ wsX9_follow_r2) ++ wsX50 ++ wsX90 ++ wsX00)
def wsX9_leftAround : List Cond := .code yX9_leftAround cX9_leftAround 6 (some .long) :: ([.fieldLink RX9 15 "NineMilesOff$Track" "left" "[J", .methodLink RX9 82 yX7_cellTo, .static yX7_cellTo, .initialized RX7, .code yX7_cellTo cX7_cellTo 2 (some .int), .static yX10_isCell, .initialized RX10, .code yX10_isCell cX10_isCell 2 (some .boolean), .constantLong RX10 383 (36)] ++ wsX90)
def wsX9_worstOf : List Cond := .code yX9_worstOf cX9_worstOf 5 (some .int) :: ([.fieldLink RX9 15 "NineMilesOff$Track" "left" "[J", .methodLink RX9 90 Lib.Math.max.name, .static Lib.Math.max.name, .initialized "java/lang/Math", .code Lib.Math.max.name Lib.Math.max.code 2 (some .int), .methodLink RX9 74 yX7_has, .static yX7_has, .initialized RX7, .code yX7_has cX7_has 3 (some .boolean), .methodLink RX7 11 yX7_bit, .static yX7_bit, .code yX7_bit cX7_bit 1 (some .long), .methodLink RX9 85 yJ13_bitCount_95d88, .static yJ13_bitCount_95d88, .initialized RJ13, .code yJ13_bitCount_95d88 cJ13_bitCount_95d88 2 (some .int), .constantLong RJ13 314 (6148914691236517205), .constantLong RJ13 316 (3689348814741910323), .constantLong RJ13 318 (1085102592571150095)] ++ wsX90)
def wsX9_bestDay_r1 : List Cond := [Cond.fieldLink RX9 21 "NineMilesOff$Shelf" "size" "I", Cond.methodLink RX9 65 Lib.Math.min.name, Cond.static Lib.Math.min.name, Cond.initialized "java/lang/Math", Cond.code Lib.Math.min.name Lib.Math.min.code 2 (some .int), Cond.fieldLink RX9 18 "NineMilesOff$Track" "leftThen" "[J", Cond.fieldLink RX9 15 "NineMilesOff$Track" "left" "[J", Cond.fieldLink RX9 9 "NineMilesOff$Track" "hers" "[J", Cond.methodLink RX9 61 yX9_fitOn, Cond.static yX9_fitOn, Cond.initialized RX9, Cond.code yX9_fitOn cX9_fitOn 5 (some .long), Cond.methodLink RX9 27 yX5_numberAt, Cond.instanceMethod yX5_numberAt, Cond.selects RX5 yX5_numberAt yX5_numberAt, Cond.initialized RX5, Cond.code yX5_numberAt cX5_numberAt 2 (some .long), Cond.fieldLink RX5 24 "NineMilesOff$Shelf" "size" "I", Cond.fieldLink RX5 27 "NineMilesOff$Shelf" "numbers" "[J", Cond.methodLink RX9 56 yX0_nearOf, Cond.instanceMethod yX0_nearOf, Cond.selects RX0 yX0_nearOf yX0_nearOf, Cond.initialized RX0, Cond.code yX0_nearOf cX0_nearOf 2 (some .long)]
def wsX9_bestDay_r2 : List Cond := [Cond.fieldLink RX0 18 "NineMilesOff$Board" "near" "[J", Cond.static yX10_isCell, Cond.initialized RX10, Cond.code yX10_isCell cX10_isCell 2 (some .boolean), Cond.constantLong RX10 383 (36), Cond.methodLink RX9 44 yX7_bit, Cond.static yX7_bit, Cond.initialized RX7, Cond.code yX7_bit cX7_bit 1 (some .long), Cond.methodLink RX9 71 yX9_leftAround, Cond.instanceMethod yX9_leftAround, Cond.selects RX9 yX9_leftAround yX9_leftAround, Cond.code yX9_leftAround cX9_leftAround 6 (some .long), Cond.methodLink RX9 82 yX7_cellTo, Cond.static yX7_cellTo, Cond.code yX7_cellTo cX7_cellTo 2 (some .int), Cond.methodLink RX9 74 yX7_has, Cond.static yX7_has, Cond.code yX7_has cX7_has 3 (some .boolean), Cond.methodLink RX7 11 yX7_bit, Cond.methodLink RX9 78 yX9_worstOf, Cond.instanceMethod yX9_worstOf, Cond.selects RX9 yX9_worstOf yX9_worstOf, Cond.code yX9_worstOf cX9_worstOf 5 (some .int)]
def wsX9_bestDay_r3 : List Cond := [Cond.methodLink RX9 90 Lib.Math.max.name, Cond.static Lib.Math.max.name, Cond.code Lib.Math.max.name Lib.Math.max.code 2 (some .int), Cond.methodLink RX9 85 yJ13_bitCount_95d88, Cond.static yJ13_bitCount_95d88, Cond.initialized RJ13, Cond.code yJ13_bitCount_95d88 cJ13_bitCount_95d88 2 (some .int), Cond.constantLong RJ13 314 (6148914691236517205), Cond.constantLong RJ13 316 (3689348814741910323), Cond.constantLong RJ13 318 (1085102592571150095)]
def wsX9_bestDay : List Cond := .code yX9_bestDay cX9_bestDay 12 (some .int) :: ((wsX9_bestDay_r1 ++ (wsX9_bestDay_r2 ++ wsX9_bestDay_r3)) ++ wsX50 ++ wsX90 ++ wsX00)
def wsX10_init_r1 : List Cond := [Cond.methodLink RX10 3 objectInit, Cond.instanceMethod objectInit, Cond.code objectInit ⟨#[0xb1]⟩ 1 none, Cond.classLink RX10 9 RX3, Cond.instantiable RX3 10, Cond.initialized RX3, Cond.fieldLink RX10 12 "NineMilesOff" "now" "LNineMilesOff$Land;", Cond.fieldLink RX10 16 "NineMilesOff" "kept" "LNineMilesOff$Land;", Cond.fieldLink RX10 19 "NineMilesOff" "trial" "LNineMilesOff$Land;", Cond.classLink RX10 22 RX0, Cond.instantiable RX0 9, Cond.initialized RX0, Cond.fieldLink RX10 25 "NineMilesOff" "board" "LNineMilesOff$Board;", Cond.classLink RX10 29 RX9, Cond.instantiable RX9 3, Cond.initialized RX9, Cond.fieldLink RX10 32 "NineMilesOff" "track" "LNineMilesOff$Track;", Cond.classLink RX10 36 RX4, Cond.instantiable RX4 1, Cond.initialized RX4, Cond.fieldLink RX10 39 "NineMilesOff" "play" "LNineMilesOff$Play;", Cond.classLink RX10 43 RX5, Cond.instantiable RX5 6, Cond.initialized RX5]
def wsX10_init_r2 : List Cond := [Cond.fieldLink RX10 46 "NineMilesOff" "noShelf" "LNineMilesOff$Shelf;", Cond.fieldLink RX10 50 "NineMilesOff" "shelves" "[LNineMilesOff$Shelf;", Cond.instanceMethod yX3_init, Cond.code yX3_init cX3_init 1 none, Cond.methodLink RX3 3 objectInit, Cond.arrayClass .int, Cond.fieldLink RX3 9 "NineMilesOff$Land" "kinds" "[I", Cond.fieldLink RX3 15 "NineMilesOff$Land" "figures" "[I", Cond.fieldLink RX3 18 "NineMilesOff$Land" "winter" "I", Cond.fieldLink RX3 22 "NineMilesOff$Land" "nearest" "I", Cond.fieldLink RX3 25 "NineMilesOff$Land" "farthest" "I", Cond.fieldLink RX3 28 "NineMilesOff$Land" "his" "I", Cond.fieldLink RX3 31 "NineMilesOff$Land" "hers" "I", Cond.fieldLink RX3 34 "NineMilesOff$Land" "day" "I", Cond.fieldLink RX3 37 "NineMilesOff$Land" "stopped" "I", Cond.fieldLink RX3 40 "NineMilesOff$Land" "pain" "I", Cond.instanceMethod yX0_init, Cond.code yX0_init cX0_init 1 none, Cond.methodLink RX0 3 objectInit, Cond.fieldLink RX0 9 "NineMilesOff$Board" "heights" "[I", Cond.fieldLink RX0 15 "NineMilesOff$Board" "fars" "[I", Cond.arrayClass .long, Cond.fieldLink RX0 18 "NineMilesOff$Board" "near" "[J", Cond.fieldLink RX0 22 "NineMilesOff$Board" "fit" "[J"]
def wsX10_init_r3 : List Cond := [Cond.fieldLink RX0 25 "NineMilesOff$Board" "come" "[J", Cond.fieldLink RX0 28 "NineMilesOff$Board" "fresh" "[J", Cond.fieldLink RX0 31 "NineMilesOff$Board" "days" "[I", Cond.fieldLink RX0 34 "NineMilesOff$Board" "walks" "[J", Cond.fieldLink RX0 37 "NineMilesOff$Board" "half" "[J", Cond.instanceMethod yX9_init, Cond.code yX9_init cX9_init 1 none, Cond.methodLink RX9 3 objectInit, Cond.fieldLink RX9 9 "NineMilesOff$Track" "hers" "[J", Cond.fieldLink RX9 15 "NineMilesOff$Track" "left" "[J", Cond.fieldLink RX9 18 "NineMilesOff$Track" "leftThen" "[J", Cond.instanceMethod yX4_init, Cond.code yX4_init cX4_init 1 none, Cond.methodLink RX4 3 objectInit, Cond.fieldLink RX4 9 "NineMilesOff$Play" "fars" "[I", Cond.instanceMethod yX5_init, Cond.code yX5_init cX5_init 1 none, Cond.methodLink RX5 3 objectInit, Cond.fieldLink RX5 11 "NineMilesOff$Shelf" "holds" "I", Cond.fieldLink RX5 15 "NineMilesOff$Shelf" "kind" "I", Cond.fieldLink RX5 18 "NineMilesOff$Shelf" "figure" "I", Cond.fieldLink RX5 21 "NineMilesOff$Shelf" "sort" "I", Cond.fieldLink RX5 24 "NineMilesOff$Shelf" "size" "I", Cond.fieldLink RX5 27 "NineMilesOff$Shelf" "numbers" "[J"]
def wsX10_init : List Cond := .code yX10_init cX10_init 2 none :: ((wsX10_init_r1 ++ (wsX10_init_r2 ++ wsX10_init_r3)) ++ wsX30 ++ wsX100 ++ wsX00 ++ wsX90 ++ wsX40 ++ wsX50)
def wsX10_isShelf : List Cond := .code yX10_isShelf cX10_isShelf 1 (some .boolean) :: ([])
def wsX10_shelfAt : List Cond := .code yX10_shelfAt cX10_shelfAt 2 (some (.object "NineMilesOff$Shelf")) :: ([.fieldLink RX10 50 "NineMilesOff" "shelves" "[LNineMilesOff$Shelf;", .fieldLink RX10 46 "NineMilesOff" "noShelf" "LNineMilesOff$Shelf;"] ++ wsX100)
def wsX10_refusalUnless : List Cond := .code yX10_refusalUnless cX10_refusalUnless 3 (some .int) :: ([.fieldLink RX10 327 "NineMilesOff$Shelf" "holds" "I", .methodLink RX10 296 yX10_isShelf, .static yX10_isShelf, .initialized RX10, .code yX10_isShelf cX10_isShelf 1 (some .boolean), .methodLink RX10 58 yX10_shelfAt, .instanceMethod yX10_shelfAt, .selects RX10 yX10_shelfAt yX10_shelfAt, .code yX10_shelfAt cX10_shelfAt 2 (some (.object "NineMilesOff$Shelf")), .fieldLink RX10 50 "NineMilesOff" "shelves" "[LNineMilesOff$Shelf;", .fieldLink RX10 46 "NineMilesOff" "noShelf" "LNineMilesOff$Shelf;"] ++ wsX50 ++ wsX100)
def wsX10_refusalOfRow : List Cond := .code yX10_refusalOfRow cX10_refusalOfRow 2 (some .int) :: ([.methodLink RX10 385 yX10_refusalUnless, .instanceMethod yX10_refusalUnless, .selects RX10 yX10_refusalUnless yX10_refusalUnless, .initialized RX10, .code yX10_refusalUnless cX10_refusalUnless 3 (some .int), .fieldLink RX10 327 "NineMilesOff$Shelf" "holds" "I", .methodLink RX10 296 yX10_isShelf, .static yX10_isShelf, .code yX10_isShelf cX10_isShelf 1 (some .boolean), .methodLink RX10 58 yX10_shelfAt, .instanceMethod yX10_shelfAt, .selects RX10 yX10_shelfAt yX10_shelfAt, .code yX10_shelfAt cX10_shelfAt 2 (some (.object "NineMilesOff$Shelf")), .fieldLink RX10 50 "NineMilesOff" "shelves" "[LNineMilesOff$Shelf;", .fieldLink RX10 46 "NineMilesOff" "noShelf" "LNineMilesOff$Shelf;"] ++ wsX50 ++ wsX100)
def wsX10_land_r1 : List Cond := [Cond.fieldLink RX10 62 "NineMilesOff$Shelf" "sort" "I", Cond.fieldLink RX10 19 "NineMilesOff" "trial" "LNineMilesOff$Land;", Cond.fieldLink RX10 12 "NineMilesOff" "now" "LNineMilesOff$Land;", Cond.methodLink RX10 54 yX10_refusalOfRow, Cond.instanceMethod yX10_refusalOfRow, Cond.selects RX10 yX10_refusalOfRow yX10_refusalOfRow, Cond.initialized RX10, Cond.code yX10_refusalOfRow cX10_refusalOfRow 2 (some .int), Cond.methodLink RX10 385 yX10_refusalUnless, Cond.instanceMethod yX10_refusalUnless, Cond.selects RX10 yX10_refusalUnless yX10_refusalUnless, Cond.code yX10_refusalUnless cX10_refusalUnless 3 (some .int), Cond.fieldLink RX10 327 "NineMilesOff$Shelf" "holds" "I", Cond.methodLink RX10 296 yX10_isShelf, Cond.static yX10_isShelf, Cond.code yX10_isShelf cX10_isShelf 1 (some .boolean), Cond.methodLink RX10 58 yX10_shelfAt, Cond.instanceMethod yX10_shelfAt, Cond.selects RX10 yX10_shelfAt yX10_shelfAt, Cond.code yX10_shelfAt cX10_shelfAt 2 (some (.object "NineMilesOff$Shelf")), Cond.fieldLink RX10 50 "NineMilesOff" "shelves" "[LNineMilesOff$Shelf;", Cond.fieldLink RX10 46 "NineMilesOff" "noShelf" "LNineMilesOff$Shelf;", Cond.methodLink RX10 66 yX8_firstWrongByte, Cond.static yX8_firstWrongByte]
def wsX10_land_r2 : List Cond := [Cond.initialized RX8, Cond.code yX8_firstWrongByte cX8_firstWrongByte 5 (some .int), Cond.fieldLink RX8 11 "NineMilesOff$Shelf" "size" "I", Cond.constantLong RX8 25 (59), Cond.constantLong RX8 27 (48), Cond.constantLong RX8 29 (57), Cond.methodLink RX8 17 yX5_numberAt, Cond.instanceMethod yX5_numberAt, Cond.selects RX5 yX5_numberAt yX5_numberAt, Cond.initialized RX5, Cond.code yX5_numberAt cX5_numberAt 2 (some .long), Cond.fieldLink RX5 24 "NineMilesOff$Shelf" "size" "I", Cond.fieldLink RX5 27 "NineMilesOff$Shelf" "numbers" "[J", Cond.methodLink RX8 21 yX8_digitsBehind, Cond.static yX8_digitsBehind, Cond.code yX8_digitsBehind cX8_digitsBehind 2 (some .int), Cond.methodLink RX10 72 yX3_becomes, Cond.instanceMethod yX3_becomes, Cond.selects RX3 yX3_becomes yX3_becomes, Cond.initialized RX3, Cond.code yX3_becomes cX3_becomes 3 none, Cond.fieldLink RX3 9 "NineMilesOff$Land" "kinds" "[I", Cond.fieldLink RX3 15 "NineMilesOff$Land" "figures" "[I", Cond.fieldLink RX3 18 "NineMilesOff$Land" "winter" "I"]
def wsX10_land_r3 : List Cond := [Cond.fieldLink RX3 22 "NineMilesOff$Land" "nearest" "I", Cond.fieldLink RX3 25 "NineMilesOff$Land" "farthest" "I", Cond.fieldLink RX3 28 "NineMilesOff$Land" "his" "I", Cond.fieldLink RX3 31 "NineMilesOff$Land" "hers" "I", Cond.fieldLink RX3 34 "NineMilesOff$Land" "day" "I", Cond.fieldLink RX3 37 "NineMilesOff$Land" "stopped" "I", Cond.fieldLink RX3 40 "NineMilesOff$Land" "pain" "I", Cond.methodLink RX10 76 yX8_firstNotDone, Cond.static yX8_firstNotDone, Cond.code yX8_firstNotDone cX8_firstNotDone 4 (some .int), Cond.methodLink RX8 31 yX8_isDone, Cond.static yX8_isDone, Cond.code yX8_isDone cX8_isDone 3 (some .boolean), Cond.methodLink RX8 39 yX8_isLaid, Cond.static yX8_isLaid, Cond.code yX8_isLaid cX8_isLaid 5 (some .boolean), Cond.methodLink RX8 35 yX8_digitAt, Cond.static yX8_digitAt, Cond.code yX8_digitAt cX8_digitAt 2 (some .int), Cond.methodLink RX8 42 yX8_twoDigitsAt, Cond.static yX8_twoDigitsAt, Cond.code yX8_twoDigitsAt cX8_twoDigitsAt 2 (some .int), Cond.methodLink RX8 62 yX2_isKind, Cond.static yX2_isKind]
def wsX10_land_r4 : List Cond := [Cond.initialized RX2, Cond.code yX2_isKind cX2_isKind 1 (some .boolean), Cond.static yX10_isCell, Cond.code yX10_isCell cX10_isCell 2 (some .boolean), Cond.constantLong RX10 383 (36), Cond.methodLink RX8 72 yX3_layAt, Cond.instanceMethod yX3_layAt, Cond.selects RX3 yX3_layAt yX3_layAt, Cond.code yX3_layAt cX3_layAt 4 none, Cond.methodLink RX8 45 yX8_isPlaced, Cond.static yX8_isPlaced, Cond.code yX8_isPlaced cX8_isPlaced 3 (some .boolean), Cond.methodLink RX8 76 yX3_isOpen, Cond.instanceMethod yX3_isOpen, Cond.selects RX3 yX3_isOpen yX3_isOpen, Cond.code yX3_isOpen cX3_isOpen 2 (some .boolean), Cond.methodLink RX3 53 yX2_isOpen, Cond.static yX2_isOpen, Cond.code yX2_isOpen cX2_isOpen 3 (some .boolean), Cond.methodLink RX8 79 yX3_place, Cond.instanceMethod yX3_place, Cond.selects RX3 yX3_place yX3_place, Cond.code yX3_place cX3_place 3 none, Cond.methodLink RX8 49 yX8_isBound]
def wsX10_land_r5 : List Cond := [Cond.static yX8_isBound, Cond.code yX8_isBound cX8_isBound 5 (some .boolean), Cond.fieldLink RX8 86 "NineMilesOff$Land" "nearest" "I", Cond.fieldLink RX8 89 "NineMilesOff$Land" "farthest" "I", Cond.static yX10_isDistance, Cond.code yX10_isDistance cX10_isDistance 1 (some .boolean), Cond.methodLink RX8 52 yX8_isWintered, Cond.static yX8_isWintered, Cond.code yX8_isWintered cX8_isWintered 2 (some .boolean), Cond.fieldLink RX8 95 "NineMilesOff$Land" "winter" "I", Cond.static yX10_isEither, Cond.code yX10_isEither cX10_isEither 1 (some .boolean), Cond.methodLink RX8 56 yX3_goDay, Cond.instanceMethod yX3_goDay, Cond.selects RX3 yX3_goDay yX3_goDay, Cond.code yX3_goDay cX3_goDay 5 (some .boolean), Cond.methodLink RX3 87 yX3_cellBy, Cond.instanceMethod yX3_cellBy, Cond.selects RX3 yX3_cellBy yX3_cellBy, Cond.code yX3_cellBy cX3_cellBy 4 (some .int), Cond.methodLink RX3 84 yX7_cellTo, Cond.static yX7_cellTo, Cond.initialized RX7, Cond.code yX7_cellTo cX7_cellTo 2 (some .int)]
def wsX10_land_r6 : List Cond := [Cond.methodLink RX3 60 yX3_isOpen, Cond.methodLink RX3 90 yX3_endDay, Cond.instanceMethod yX3_endDay, Cond.selects RX3 yX3_endDay yX3_endDay, Cond.code yX3_endDay cX3_endDay 4 none, Cond.methodLink RX3 94 yX3_farBetween, Cond.instanceMethod yX3_farBetween, Cond.selects RX3 yX3_farBetween yX3_farBetween, Cond.code yX3_farBetween cX3_farBetween 3 (some .int), Cond.methodLink RX3 79 Lib.Math.abs.name, Cond.static Lib.Math.abs.name, Cond.initialized "java/lang/Math", Cond.code Lib.Math.abs.name Lib.Math.abs.code 1 (some .int), Cond.methodLink RX3 73 yX7_apart, Cond.static yX7_apart, Cond.code yX7_apart cX7_apart 2 (some .int), Cond.methodLink RX7 19 Lib.Math.abs.name, Cond.methodLink RX3 76 yX3_heightAt, Cond.instanceMethod yX3_heightAt, Cond.selects RX3 yX3_heightAt yX3_heightAt, Cond.code yX3_heightAt cX3_heightAt 2 (some .int), Cond.methodLink RX3 49 yX2_heightOf, Cond.static yX2_heightOf, Cond.code yX2_heightOf cX2_heightOf 2 (some .int)]
def wsX10_land_r7 : List Cond := [Cond.methodLink RX10 80 yX8_statementsOf, Cond.static yX8_statementsOf, Cond.code yX8_statementsOf cX8_statementsOf 3 (some .int)]
def wsX10_land : List Cond := .code yX10_land cX10_land 5 (some .int) :: ((wsX10_land_r1 ++ (wsX10_land_r2 ++ (wsX10_land_r3 ++ (wsX10_land_r4 ++ (wsX10_land_r5 ++ (wsX10_land_r6 ++ wsX10_land_r7)))))) ++ wsX50 ++ wsX100 ++ wsX30)
def wsX10_ground_r1 : List Cond := [Cond.fieldLink RX10 12 "NineMilesOff" "now" "LNineMilesOff$Land;", Cond.methodLink RX10 83 yX10_isCell, Cond.static yX10_isCell, Cond.initialized RX10, Cond.code yX10_isCell cX10_isCell 2 (some .boolean), Cond.constantLong RX10 383 (36), Cond.methodLink RX10 87 yX3_kindAt, Cond.instanceMethod yX3_kindAt, Cond.selects RX3 yX3_kindAt yX3_kindAt, Cond.initialized RX3, Cond.code yX3_kindAt cX3_kindAt 2 (some .int), Cond.fieldLink RX3 9 "NineMilesOff$Land" "kinds" "[I", Cond.methodLink RX10 90 yX3_figureAt, Cond.instanceMethod yX3_figureAt, Cond.selects RX3 yX3_figureAt yX3_figureAt, Cond.code yX3_figureAt cX3_figureAt 2 (some .int), Cond.fieldLink RX3 15 "NineMilesOff$Land" "figures" "[I", Cond.methodLink RX10 93 yX3_heightAt, Cond.instanceMethod yX3_heightAt, Cond.selects RX3 yX3_heightAt yX3_heightAt, Cond.code yX3_heightAt cX3_heightAt 2 (some .int), Cond.methodLink RX3 49 yX2_heightOf, Cond.static yX2_heightOf, Cond.initialized RX2]
def wsX10_ground_r2 : List Cond := [Cond.code yX2_heightOf cX2_heightOf 2 (some .int), Cond.methodLink RX10 96 yX3_isOpen, Cond.instanceMethod yX3_isOpen, Cond.selects RX3 yX3_isOpen yX3_isOpen, Cond.code yX3_isOpen cX3_isOpen 2 (some .boolean), Cond.fieldLink RX3 18 "NineMilesOff$Land" "winter" "I", Cond.methodLink RX3 53 yX2_isOpen, Cond.static yX2_isOpen, Cond.code yX2_isOpen cX2_isOpen 3 (some .boolean), Cond.methodLink RX10 100 yX3_chanceAt, Cond.instanceMethod yX3_chanceAt, Cond.selects RX3 yX3_chanceAt yX3_chanceAt, Cond.code yX3_chanceAt cX3_chanceAt 2 (some .int), Cond.methodLink RX3 57 yX2_chanceOf, Cond.static yX2_chanceOf, Cond.code yX2_chanceOf cX2_chanceOf 2 (some .int)]
def wsX10_ground : List Cond := .code yX10_ground cX10_ground 3 (some .int) :: ((wsX10_ground_r1 ++ wsX10_ground_r2) ++ wsX100 ++ wsX30)
def wsX10_refusalOfGround : List Cond := .code yX10_refusalOfGround cX10_refusalOfGround 2 (some .int) :: ([.methodLink RX10 385 yX10_refusalUnless, .instanceMethod yX10_refusalUnless, .selects RX10 yX10_refusalUnless yX10_refusalUnless, .initialized RX10, .code yX10_refusalUnless cX10_refusalUnless 3 (some .int), .fieldLink RX10 327 "NineMilesOff$Shelf" "holds" "I", .methodLink RX10 296 yX10_isShelf, .static yX10_isShelf, .code yX10_isShelf cX10_isShelf 1 (some .boolean), .methodLink RX10 58 yX10_shelfAt, .instanceMethod yX10_shelfAt, .selects RX10 yX10_shelfAt yX10_shelfAt, .code yX10_shelfAt cX10_shelfAt 2 (some (.object "NineMilesOff$Shelf")), .fieldLink RX10 50 "NineMilesOff" "shelves" "[LNineMilesOff$Shelf;", .fieldLink RX10 46 "NineMilesOff" "noShelf" "LNineMilesOff$Shelf;"] ++ wsX50 ++ wsX100)
def wsX10_lays_r1 : List Cond := [Cond.fieldLink RX10 12 "NineMilesOff" "now" "LNineMilesOff$Land;", Cond.fieldLink RX10 106 "NineMilesOff$Shelf" "kind" "I", Cond.fieldLink RX10 109 "NineMilesOff$Shelf" "figure" "I", Cond.methodLink RX10 83 yX10_isCell, Cond.static yX10_isCell, Cond.initialized RX10, Cond.code yX10_isCell cX10_isCell 2 (some .boolean), Cond.constantLong RX10 383 (36), Cond.methodLink RX10 103 yX10_refusalOfGround, Cond.instanceMethod yX10_refusalOfGround, Cond.selects RX10 yX10_refusalOfGround yX10_refusalOfGround, Cond.code yX10_refusalOfGround cX10_refusalOfGround 2 (some .int), Cond.methodLink RX10 385 yX10_refusalUnless, Cond.instanceMethod yX10_refusalUnless, Cond.selects RX10 yX10_refusalUnless yX10_refusalUnless, Cond.code yX10_refusalUnless cX10_refusalUnless 3 (some .int), Cond.fieldLink RX10 327 "NineMilesOff$Shelf" "holds" "I", Cond.methodLink RX10 296 yX10_isShelf, Cond.static yX10_isShelf, Cond.code yX10_isShelf cX10_isShelf 1 (some .boolean), Cond.methodLink RX10 58 yX10_shelfAt, Cond.instanceMethod yX10_shelfAt, Cond.selects RX10 yX10_shelfAt yX10_shelfAt, Cond.code yX10_shelfAt cX10_shelfAt 2 (some (.object "NineMilesOff$Shelf"))]
def wsX10_lays_r2 : List Cond := [Cond.fieldLink RX10 50 "NineMilesOff" "shelves" "[LNineMilesOff$Shelf;", Cond.fieldLink RX10 46 "NineMilesOff" "noShelf" "LNineMilesOff$Shelf;", Cond.methodLink RX10 87 yX3_kindAt, Cond.instanceMethod yX3_kindAt, Cond.selects RX3 yX3_kindAt yX3_kindAt, Cond.initialized RX3, Cond.code yX3_kindAt cX3_kindAt 2 (some .int), Cond.fieldLink RX3 9 "NineMilesOff$Land" "kinds" "[I", Cond.methodLink RX10 112 yX3_layAt, Cond.instanceMethod yX3_layAt, Cond.selects RX3 yX3_layAt yX3_layAt, Cond.code yX3_layAt cX3_layAt 4 none, Cond.fieldLink RX3 15 "NineMilesOff$Land" "figures" "[I"]
def wsX10_lays : List Cond := .code yX10_lays cX10_lays 5 (some .int) :: ((wsX10_lays_r1 ++ wsX10_lays_r2) ++ wsX100 ++ wsX50 ++ wsX30)
def wsX10_stands_r1 : List Cond := [Cond.fieldLink RX10 12 "NineMilesOff" "now" "LNineMilesOff$Land;", Cond.fieldLink RX10 119 "NineMilesOff$Land" "his" "I", Cond.fieldLink RX10 122 "NineMilesOff$Land" "hers" "I", Cond.methodLink RX10 116 yX10_isEither, Cond.static yX10_isEither, Cond.initialized RX10, Cond.code yX10_isEither cX10_isEither 1 (some .boolean), Cond.methodLink RX10 83 yX10_isCell, Cond.static yX10_isCell, Cond.code yX10_isCell cX10_isCell 2 (some .boolean), Cond.constantLong RX10 383 (36), Cond.methodLink RX10 96 yX3_isOpen, Cond.instanceMethod yX3_isOpen, Cond.selects RX3 yX3_isOpen yX3_isOpen, Cond.initialized RX3, Cond.code yX3_isOpen cX3_isOpen 2 (some .boolean), Cond.fieldLink RX3 9 "NineMilesOff$Land" "kinds" "[I", Cond.fieldLink RX3 15 "NineMilesOff$Land" "figures" "[I", Cond.fieldLink RX3 18 "NineMilesOff$Land" "winter" "I", Cond.methodLink RX3 53 yX2_isOpen, Cond.static yX2_isOpen, Cond.initialized RX2, Cond.code yX2_isOpen cX2_isOpen 3 (some .boolean), Cond.methodLink RX10 125 yX3_place]
def wsX10_stands_r2 : List Cond := [Cond.instanceMethod yX3_place, Cond.selects RX3 yX3_place yX3_place, Cond.code yX3_place cX3_place 3 none, Cond.fieldLink RX3 28 "NineMilesOff$Land" "his" "I", Cond.fieldLink RX3 31 "NineMilesOff$Land" "hers" "I"]
def wsX10_stands : List Cond := .code yX10_stands cX10_stands 4 (some .int) :: ((wsX10_stands_r1 ++ wsX10_stands_r2) ++ wsX100 ++ wsX30)
def wsX10_set : List Cond := .code yX10_set cX10_set 4 (some .int) :: ([.fieldLink RX10 12 "NineMilesOff" "now" "LNineMilesOff$Land;", .fieldLink RX10 132 "NineMilesOff$Land" "nearest" "I", .fieldLink RX10 135 "NineMilesOff$Land" "farthest" "I", .fieldLink RX10 138 "NineMilesOff$Land" "winter" "I", .methodLink RX10 129 yX10_isDistance, .static yX10_isDistance, .initialized RX10, .code yX10_isDistance cX10_isDistance 1 (some .boolean), .methodLink RX10 116 yX10_isEither, .static yX10_isEither, .code yX10_isEither cX10_isEither 1 (some .boolean)] ++ wsX100 ++ wsX30)
def wsX10_go_r1 : List Cond := [Cond.fieldLink RX10 12 "NineMilesOff" "now" "LNineMilesOff$Land;", Cond.fieldLink RX10 119 "NineMilesOff$Land" "his" "I", Cond.fieldLink RX10 122 "NineMilesOff$Land" "hers" "I", Cond.methodLink RX10 141 yX10_isWay, Cond.static yX10_isWay, Cond.initialized RX10, Cond.code yX10_isWay cX10_isWay 1 (some .boolean), Cond.methodLink RX10 144 yX3_goDay, Cond.instanceMethod yX3_goDay, Cond.selects RX3 yX3_goDay yX3_goDay, Cond.initialized RX3, Cond.code yX3_goDay cX3_goDay 5 (some .boolean), Cond.fieldLink RX3 28 "NineMilesOff$Land" "his" "I", Cond.fieldLink RX3 31 "NineMilesOff$Land" "hers" "I", Cond.fieldLink RX3 34 "NineMilesOff$Land" "day" "I", Cond.methodLink RX3 87 yX3_cellBy, Cond.instanceMethod yX3_cellBy, Cond.selects RX3 yX3_cellBy yX3_cellBy, Cond.code yX3_cellBy cX3_cellBy 4 (some .int), Cond.methodLink RX3 84 yX7_cellTo, Cond.static yX7_cellTo, Cond.initialized RX7, Cond.code yX7_cellTo cX7_cellTo 2 (some .int), Cond.static yX10_isCell]
def wsX10_go_r2 : List Cond := [Cond.code yX10_isCell cX10_isCell 2 (some .boolean), Cond.constantLong RX10 383 (36), Cond.methodLink RX3 60 yX3_isOpen, Cond.instanceMethod yX3_isOpen, Cond.selects RX3 yX3_isOpen yX3_isOpen, Cond.code yX3_isOpen cX3_isOpen 2 (some .boolean), Cond.fieldLink RX3 9 "NineMilesOff$Land" "kinds" "[I", Cond.fieldLink RX3 15 "NineMilesOff$Land" "figures" "[I", Cond.fieldLink RX3 18 "NineMilesOff$Land" "winter" "I", Cond.methodLink RX3 53 yX2_isOpen, Cond.static yX2_isOpen, Cond.initialized RX2, Cond.code yX2_isOpen cX2_isOpen 3 (some .boolean), Cond.methodLink RX3 90 yX3_endDay, Cond.instanceMethod yX3_endDay, Cond.selects RX3 yX3_endDay yX3_endDay, Cond.code yX3_endDay cX3_endDay 4 none, Cond.fieldLink RX3 22 "NineMilesOff$Land" "nearest" "I", Cond.fieldLink RX3 37 "NineMilesOff$Land" "stopped" "I", Cond.fieldLink RX3 25 "NineMilesOff$Land" "farthest" "I", Cond.fieldLink RX3 40 "NineMilesOff$Land" "pain" "I", Cond.methodLink RX3 94 yX3_farBetween, Cond.instanceMethod yX3_farBetween, Cond.selects RX3 yX3_farBetween yX3_farBetween]
def wsX10_go_r3 : List Cond := [Cond.code yX3_farBetween cX3_farBetween 3 (some .int), Cond.methodLink RX3 79 Lib.Math.abs.name, Cond.static Lib.Math.abs.name, Cond.initialized "java/lang/Math", Cond.code Lib.Math.abs.name Lib.Math.abs.code 1 (some .int), Cond.methodLink RX3 73 yX7_apart, Cond.static yX7_apart, Cond.code yX7_apart cX7_apart 2 (some .int), Cond.methodLink RX7 19 Lib.Math.abs.name, Cond.methodLink RX3 76 yX3_heightAt, Cond.instanceMethod yX3_heightAt, Cond.selects RX3 yX3_heightAt yX3_heightAt, Cond.code yX3_heightAt cX3_heightAt 2 (some .int), Cond.methodLink RX3 49 yX2_heightOf, Cond.static yX2_heightOf, Cond.code yX2_heightOf cX2_heightOf 2 (some .int), Cond.methodLink RX10 148 yX3_farBetween]
def wsX10_go : List Cond := .code yX10_go cX10_go 3 (some .int) :: ((wsX10_go_r1 ++ (wsX10_go_r2 ++ wsX10_go_r3)) ++ wsX100 ++ wsX30)
def wsX10_far_r1 : List Cond := [Cond.fieldLink RX10 12 "NineMilesOff" "now" "LNineMilesOff$Land;", Cond.methodLink RX10 83 yX10_isCell, Cond.static yX10_isCell, Cond.initialized RX10, Cond.code yX10_isCell cX10_isCell 2 (some .boolean), Cond.constantLong RX10 383 (36), Cond.methodLink RX10 148 yX3_farBetween, Cond.instanceMethod yX3_farBetween, Cond.selects RX3 yX3_farBetween yX3_farBetween, Cond.initialized RX3, Cond.code yX3_farBetween cX3_farBetween 3 (some .int), Cond.methodLink RX3 79 Lib.Math.abs.name, Cond.static Lib.Math.abs.name, Cond.initialized "java/lang/Math", Cond.code Lib.Math.abs.name Lib.Math.abs.code 1 (some .int), Cond.methodLink RX3 73 yX7_apart, Cond.static yX7_apart, Cond.initialized RX7, Cond.code yX7_apart cX7_apart 2 (some .int), Cond.methodLink RX7 19 Lib.Math.abs.name, Cond.methodLink RX3 76 yX3_heightAt, Cond.instanceMethod yX3_heightAt, Cond.selects RX3 yX3_heightAt yX3_heightAt, Cond.code yX3_heightAt cX3_heightAt 2 (some .int)]
def wsX10_far_r2 : List Cond := [Cond.fieldLink RX3 9 "NineMilesOff$Land" "kinds" "[I", Cond.fieldLink RX3 15 "NineMilesOff$Land" "figures" "[I", Cond.methodLink RX3 49 yX2_heightOf, Cond.static yX2_heightOf, Cond.initialized RX2, Cond.code yX2_heightOf cX2_heightOf 2 (some .int)]
def wsX10_far : List Cond := .code yX10_far cX10_far 3 (some .int) :: ((wsX10_far_r1 ++ wsX10_far_r2) ++ wsX100 ++ wsX30)
def wsX10_steps_r1 : List Cond := [Cond.fieldLink RX10 12 "NineMilesOff" "now" "LNineMilesOff$Land;", Cond.methodLink RX10 83 yX10_isCell, Cond.static yX10_isCell, Cond.initialized RX10, Cond.code yX10_isCell cX10_isCell 2 (some .boolean), Cond.constantLong RX10 383 (36), Cond.methodLink RX10 152 yX3_openCells, Cond.instanceMethod yX3_openCells, Cond.selects RX3 yX3_openCells yX3_openCells, Cond.initialized RX3, Cond.code yX3_openCells cX3_openCells 4 (some .long), Cond.methodLink RX3 60 yX3_isOpen, Cond.instanceMethod yX3_isOpen, Cond.selects RX3 yX3_isOpen yX3_isOpen, Cond.code yX3_isOpen cX3_isOpen 2 (some .boolean), Cond.fieldLink RX3 9 "NineMilesOff$Land" "kinds" "[I", Cond.fieldLink RX3 15 "NineMilesOff$Land" "figures" "[I", Cond.fieldLink RX3 18 "NineMilesOff$Land" "winter" "I", Cond.methodLink RX3 53 yX2_isOpen, Cond.static yX2_isOpen, Cond.initialized RX2, Cond.code yX2_isOpen cX2_isOpen 3 (some .boolean), Cond.methodLink RX3 63 yX7_bit, Cond.static yX7_bit]
def wsX10_steps_r2 : List Cond := [Cond.initialized RX7, Cond.code yX7_bit cX7_bit 1 (some .long), Cond.methodLink RX10 156 yX7_stepsBetween, Cond.static yX7_stepsBetween, Cond.code yX7_stepsBetween cX7_stepsBetween 7 (some .int), Cond.methodLink RX7 11 yX7_bit, Cond.methodLink RX7 15 yX7_has, Cond.static yX7_has, Cond.code yX7_has cX7_has 3 (some .boolean), Cond.methodLink RX7 35 yX7_spread, Cond.static yX7_spread, Cond.code yX7_spread cX7_spread 4 (some .long), Cond.constantLong RX7 29 (-1090785346), Cond.constantLong RX7 31 (-34905131041), Cond.constantLong RX7 33 (68719476735)]
def wsX10_steps : List Cond := .code yX10_steps cX10_steps 3 (some .int) :: ((wsX10_steps_r1 ++ wsX10_steps_r2) ++ wsX100 ++ wsX30)
def wsX10_pairs_r1 : List Cond := [Cond.fieldLink RX10 25 "NineMilesOff" "board" "LNineMilesOff$Board;", Cond.fieldLink RX10 12 "NineMilesOff" "now" "LNineMilesOff$Land;", Cond.methodLink RX10 162 yX0_lay, Cond.instanceMethod yX0_lay, Cond.selects RX0 yX0_lay yX0_lay, Cond.initialized RX0, Cond.code yX0_lay cX0_lay 5 none, Cond.fieldLink RX0 9 "NineMilesOff$Board" "heights" "[I", Cond.methodLink RX0 46 Lib.Math.abs.name, Cond.static Lib.Math.abs.name, Cond.initialized "java/lang/Math", Cond.code Lib.Math.abs.name Lib.Math.abs.code 1 (some .int), Cond.fieldLink RX0 15 "NineMilesOff$Board" "fars" "[I", Cond.fieldLink RX0 57 "NineMilesOff$Land" "nearest" "I", Cond.fieldLink RX0 61 "NineMilesOff$Land" "farthest" "I", Cond.methodLink RX0 40 yX3_heightAt, Cond.instanceMethod yX3_heightAt, Cond.selects RX3 yX3_heightAt yX3_heightAt, Cond.initialized RX3, Cond.code yX3_heightAt cX3_heightAt 2 (some .int), Cond.fieldLink RX3 9 "NineMilesOff$Land" "kinds" "[I", Cond.fieldLink RX3 15 "NineMilesOff$Land" "figures" "[I", Cond.static yX10_isCell, Cond.initialized RX10]
def wsX10_pairs_r2 : List Cond := [Cond.code yX10_isCell cX10_isCell 2 (some .boolean), Cond.constantLong RX10 383 (36), Cond.methodLink RX3 49 yX2_heightOf, Cond.static yX2_heightOf, Cond.initialized RX2, Cond.code yX2_heightOf cX2_heightOf 2 (some .int), Cond.methodLink RX0 51 yX7_apart, Cond.static yX7_apart, Cond.initialized RX7, Cond.code yX7_apart cX7_apart 2 (some .int), Cond.methodLink RX7 19 Lib.Math.abs.name, Cond.methodLink RX0 64 yX0_bound, Cond.instanceMethod yX0_bound, Cond.selects RX0 yX0_bound yX0_bound, Cond.code yX0_bound cX0_bound 8 none, Cond.fieldLink RX0 18 "NineMilesOff$Board" "near" "[J", Cond.methodLink RX0 68 yX3_openCells, Cond.instanceMethod yX3_openCells, Cond.selects RX3 yX3_openCells yX3_openCells, Cond.code yX3_openCells cX3_openCells 4 (some .long), Cond.methodLink RX3 60 yX3_isOpen, Cond.instanceMethod yX3_isOpen, Cond.selects RX3 yX3_isOpen yX3_isOpen, Cond.code yX3_isOpen cX3_isOpen 2 (some .boolean)]
def wsX10_pairs_r3 : List Cond := [Cond.fieldLink RX3 18 "NineMilesOff$Land" "winter" "I", Cond.methodLink RX3 53 yX2_isOpen, Cond.static yX2_isOpen, Cond.code yX2_isOpen cX2_isOpen 3 (some .boolean), Cond.methodLink RX3 63 yX7_bit, Cond.static yX7_bit, Cond.code yX7_bit cX7_bit 1 (some .long), Cond.methodLink RX0 72 yX0_admit, Cond.instanceMethod yX0_admit, Cond.selects RX0 yX0_admit yX0_admit, Cond.code yX0_admit cX0_admit 4 none, Cond.fieldLink RX0 22 "NineMilesOff$Board" "fit" "[J", Cond.methodLink RX0 76 yX7_has, Cond.static yX7_has, Cond.code yX7_has cX7_has 3 (some .boolean), Cond.methodLink RX7 11 yX7_bit, Cond.methodLink RX10 165 yX0_pairsInAll, Cond.instanceMethod yX0_pairsInAll, Cond.selects RX0 yX0_pairsInAll yX0_pairsInAll, Cond.code yX0_pairsInAll cX0_pairsInAll 1 (some .int), Cond.methodLink RX0 84 yX0_bitsOf, Cond.static yX0_bitsOf, Cond.code yX0_bitsOf cX0_bitsOf 3 (some .int), Cond.methodLink RX0 88 yJ13_bitCount_95d88]
def wsX10_pairs_r4 : List Cond := [Cond.static yJ13_bitCount_95d88, Cond.initialized RJ13, Cond.code yJ13_bitCount_95d88 cJ13_bitCount_95d88 2 (some .int), Cond.constantLong RJ13 314 (6148914691236517205), Cond.constantLong RJ13 316 (3689348814741910323), Cond.constantLong RJ13 318 (1085102592571150095), Cond.methodLink RX10 169 yX0_pairAt, Cond.instanceMethod yX0_pairAt, Cond.selects RX0 yX0_pairAt yX0_pairAt, Cond.code yX0_pairAt cX0_pairAt 5 (some .int)]
def wsX10_pairs : List Cond := .code yX10_pairs cX10_pairs 2 (some .int) :: ((wsX10_pairs_r1 ++ (wsX10_pairs_r2 ++ (wsX10_pairs_r3 ++ wsX10_pairs_r4))) ++ wsX100 ++ wsX00 ++ wsX30)
def wsX10_islands_r1 : List Cond := [Cond.fieldLink RX10 12 "NineMilesOff" "now" "LNineMilesOff$Land;", Cond.methodLink RX10 152 yX3_openCells, Cond.instanceMethod yX3_openCells, Cond.selects RX3 yX3_openCells yX3_openCells, Cond.initialized RX3, Cond.code yX3_openCells cX3_openCells 4 (some .long), Cond.methodLink RX3 60 yX3_isOpen, Cond.instanceMethod yX3_isOpen, Cond.selects RX3 yX3_isOpen yX3_isOpen, Cond.code yX3_isOpen cX3_isOpen 2 (some .boolean), Cond.fieldLink RX3 9 "NineMilesOff$Land" "kinds" "[I", Cond.fieldLink RX3 15 "NineMilesOff$Land" "figures" "[I", Cond.fieldLink RX3 18 "NineMilesOff$Land" "winter" "I", Cond.static yX10_isCell, Cond.initialized RX10, Cond.code yX10_isCell cX10_isCell 2 (some .boolean), Cond.constantLong RX10 383 (36), Cond.methodLink RX3 53 yX2_isOpen, Cond.static yX2_isOpen, Cond.initialized RX2, Cond.code yX2_isOpen cX2_isOpen 3 (some .boolean), Cond.methodLink RX3 63 yX7_bit, Cond.static yX7_bit, Cond.initialized RX7]
def wsX10_islands_r2 : List Cond := [Cond.code yX7_bit cX7_bit 1 (some .long), Cond.methodLink RX10 172 yX7_islandsOf, Cond.static yX7_islandsOf, Cond.code yX7_islandsOf cX7_islandsOf 6 (some .int), Cond.constantLong RX7 47 (-1), Cond.methodLink RX7 15 yX7_has, Cond.static yX7_has, Cond.code yX7_has cX7_has 3 (some .boolean), Cond.methodLink RX7 11 yX7_bit, Cond.methodLink RX7 43 yX7_islandOf, Cond.static yX7_islandOf, Cond.code yX7_islandOf cX7_islandOf 3 (some .long), Cond.methodLink RX7 39 yX7_cellsWithin, Cond.static yX7_cellsWithin, Cond.code yX7_cellsWithin cX7_cellsWithin 7 (some .long), Cond.methodLink RX7 35 yX7_spread, Cond.static yX7_spread, Cond.code yX7_spread cX7_spread 4 (some .long), Cond.constantLong RX7 29 (-1090785346), Cond.constantLong RX7 31 (-34905131041), Cond.constantLong RX7 33 (68719476735)]
def wsX10_islands : List Cond := .code yX10_islands cX10_islands 1 (some .int) :: ((wsX10_islands_r1 ++ wsX10_islands_r2) ++ wsX100 ++ wsX30)
def wsX10_island_r1 : List Cond := [Cond.fieldLink RX10 12 "NineMilesOff" "now" "LNineMilesOff$Land;", Cond.methodLink RX10 83 yX10_isCell, Cond.static yX10_isCell, Cond.initialized RX10, Cond.code yX10_isCell cX10_isCell 2 (some .boolean), Cond.constantLong RX10 383 (36), Cond.methodLink RX10 152 yX3_openCells, Cond.instanceMethod yX3_openCells, Cond.selects RX3 yX3_openCells yX3_openCells, Cond.initialized RX3, Cond.code yX3_openCells cX3_openCells 4 (some .long), Cond.methodLink RX3 60 yX3_isOpen, Cond.instanceMethod yX3_isOpen, Cond.selects RX3 yX3_isOpen yX3_isOpen, Cond.code yX3_isOpen cX3_isOpen 2 (some .boolean), Cond.fieldLink RX3 9 "NineMilesOff$Land" "kinds" "[I", Cond.fieldLink RX3 15 "NineMilesOff$Land" "figures" "[I", Cond.fieldLink RX3 18 "NineMilesOff$Land" "winter" "I", Cond.methodLink RX3 53 yX2_isOpen, Cond.static yX2_isOpen, Cond.initialized RX2, Cond.code yX2_isOpen cX2_isOpen 3 (some .boolean), Cond.methodLink RX3 63 yX7_bit, Cond.static yX7_bit]
def wsX10_island_r2 : List Cond := [Cond.initialized RX7, Cond.code yX7_bit cX7_bit 1 (some .long), Cond.methodLink RX10 176 yX7_has, Cond.static yX7_has, Cond.code yX7_has cX7_has 3 (some .boolean), Cond.methodLink RX7 11 yX7_bit, Cond.methodLink RX10 180 yX7_islandOf, Cond.static yX7_islandOf, Cond.code yX7_islandOf cX7_islandOf 3 (some .long), Cond.methodLink RX7 39 yX7_cellsWithin, Cond.static yX7_cellsWithin, Cond.code yX7_cellsWithin cX7_cellsWithin 7 (some .long), Cond.methodLink RX7 35 yX7_spread, Cond.static yX7_spread, Cond.code yX7_spread cX7_spread 4 (some .long), Cond.constantLong RX7 29 (-1090785346), Cond.constantLong RX7 31 (-34905131041), Cond.constantLong RX7 33 (68719476735), Cond.methodLink RX10 184 yJ13_bitCount_95d88, Cond.static yJ13_bitCount_95d88, Cond.initialized RJ13, Cond.code yJ13_bitCount_95d88 cJ13_bitCount_95d88 2 (some .int), Cond.constantLong RJ13 314 (6148914691236517205), Cond.constantLong RJ13 316 (3689348814741910323)]
def wsX10_island_r3 : List Cond := [Cond.constantLong RJ13 318 (1085102592571150095)]
def wsX10_island : List Cond := .code yX10_island cX10_island 4 (some .int) :: ((wsX10_island_r1 ++ (wsX10_island_r2 ++ wsX10_island_r3)) ++ wsX100 ++ wsX30)
def wsX10_middle_r1 : List Cond := [Cond.fieldLink RX10 12 "NineMilesOff" "now" "LNineMilesOff$Land;", Cond.methodLink RX10 116 yX10_isEither, Cond.static yX10_isEither, Cond.initialized RX10, Cond.code yX10_isEither cX10_isEither 1 (some .boolean), Cond.methodLink RX10 152 yX3_openCells, Cond.instanceMethod yX3_openCells, Cond.selects RX3 yX3_openCells yX3_openCells, Cond.initialized RX3, Cond.code yX3_openCells cX3_openCells 4 (some .long), Cond.methodLink RX3 60 yX3_isOpen, Cond.instanceMethod yX3_isOpen, Cond.selects RX3 yX3_isOpen yX3_isOpen, Cond.code yX3_isOpen cX3_isOpen 2 (some .boolean), Cond.fieldLink RX3 9 "NineMilesOff$Land" "kinds" "[I", Cond.fieldLink RX3 15 "NineMilesOff$Land" "figures" "[I", Cond.fieldLink RX3 18 "NineMilesOff$Land" "winter" "I", Cond.static yX10_isCell, Cond.code yX10_isCell cX10_isCell 2 (some .boolean), Cond.constantLong RX10 383 (36), Cond.methodLink RX3 53 yX2_isOpen, Cond.static yX2_isOpen, Cond.initialized RX2, Cond.code yX2_isOpen cX2_isOpen 3 (some .boolean)]
def wsX10_middle_r2 : List Cond := [Cond.methodLink RX3 63 yX7_bit, Cond.static yX7_bit, Cond.initialized RX7, Cond.code yX7_bit cX7_bit 1 (some .long), Cond.methodLink RX10 189 yX7_middleOf, Cond.static yX7_middleOf, Cond.code yX7_middleOf cX7_middleOf 8 (some .int), Cond.methodLink RX7 55 yX7_largestIsland, Cond.static yX7_largestIsland, Cond.code yX7_largestIsland cX7_largestIsland 9 (some .long), Cond.constantLong RX7 47 (-1), Cond.methodLink RX7 15 yX7_has, Cond.static yX7_has, Cond.code yX7_has cX7_has 3 (some .boolean), Cond.methodLink RX7 11 yX7_bit, Cond.methodLink RX7 43 yX7_islandOf, Cond.static yX7_islandOf, Cond.code yX7_islandOf cX7_islandOf 3 (some .long), Cond.methodLink RX7 39 yX7_cellsWithin, Cond.static yX7_cellsWithin, Cond.code yX7_cellsWithin cX7_cellsWithin 7 (some .long), Cond.methodLink RX7 35 yX7_spread, Cond.static yX7_spread, Cond.code yX7_spread cX7_spread 4 (some .long)]
def wsX10_middle_r3 : List Cond := [Cond.constantLong RX7 29 (-1090785346), Cond.constantLong RX7 31 (-34905131041), Cond.constantLong RX7 33 (68719476735), Cond.methodLink RX7 49 yJ13_bitCount_95d88, Cond.static yJ13_bitCount_95d88, Cond.initialized RJ13, Cond.code yJ13_bitCount_95d88 cJ13_bitCount_95d88 2 (some .int), Cond.constantLong RJ13 314 (6148914691236517205), Cond.constantLong RJ13 316 (3689348814741910323), Cond.constantLong RJ13 318 (1085102592571150095), Cond.methodLink RX7 58 yX7_greatestSteps, Cond.static yX7_greatestSteps, Cond.code yX7_greatestSteps cX7_greatestSteps 8 (some .int), Cond.methodLink RX10 192 yX7_greatestSteps]
def wsX10_middle : List Cond := .code yX10_middle cX10_middle 5 (some .int) :: ((wsX10_middle_r1 ++ (wsX10_middle_r2 ++ wsX10_middle_r3)) ++ wsX100 ++ wsX30)
def wsX10_refusalToSee : List Cond := .code yX10_refusalToSee cX10_refusalToSee 3 (some .int) :: ([.fieldLink RX10 12 "NineMilesOff" "now" "LNineMilesOff$Land;", .methodLink RX10 83 yX10_isCell, .static yX10_isCell, .initialized RX10, .code yX10_isCell cX10_isCell 2 (some .boolean), .constantLong RX10 383 (36), .methodLink RX10 218 yX3_bothStand, .instanceMethod yX3_bothStand, .selects RX3 yX3_bothStand yX3_bothStand, .initialized RX3, .code yX3_bothStand cX3_bothStand 1 (some .boolean), .fieldLink RX3 28 "NineMilesOff$Land" "his" "I", .fieldLink RX3 31 "NineMilesOff$Land" "hers" "I"] ++ wsX100 ++ wsX30)
def wsX10_see_r1 : List Cond := [Cond.fieldLink RX10 25 "NineMilesOff" "board" "LNineMilesOff$Board;", Cond.fieldLink RX10 12 "NineMilesOff" "now" "LNineMilesOff$Land;", Cond.fieldLink RX10 119 "NineMilesOff$Land" "his" "I", Cond.fieldLink RX10 122 "NineMilesOff$Land" "hers" "I", Cond.methodLink RX10 196 yX10_refusalToSee, Cond.instanceMethod yX10_refusalToSee, Cond.selects RX10 yX10_refusalToSee yX10_refusalToSee, Cond.initialized RX10, Cond.code yX10_refusalToSee cX10_refusalToSee 3 (some .int), Cond.methodLink RX10 83 yX10_isCell, Cond.static yX10_isCell, Cond.code yX10_isCell cX10_isCell 2 (some .boolean), Cond.constantLong RX10 383 (36), Cond.methodLink RX10 218 yX3_bothStand, Cond.instanceMethod yX3_bothStand, Cond.selects RX3 yX3_bothStand yX3_bothStand, Cond.initialized RX3, Cond.code yX3_bothStand cX3_bothStand 1 (some .boolean), Cond.fieldLink RX3 28 "NineMilesOff$Land" "his" "I", Cond.fieldLink RX3 31 "NineMilesOff$Land" "hers" "I", Cond.methodLink RX10 162 yX0_lay, Cond.instanceMethod yX0_lay, Cond.selects RX0 yX0_lay yX0_lay, Cond.initialized RX0]
def wsX10_see_r2 : List Cond := [Cond.code yX0_lay cX0_lay 5 none, Cond.fieldLink RX0 9 "NineMilesOff$Board" "heights" "[I", Cond.methodLink RX0 46 Lib.Math.abs.name, Cond.static Lib.Math.abs.name, Cond.initialized "java/lang/Math", Cond.code Lib.Math.abs.name Lib.Math.abs.code 1 (some .int), Cond.fieldLink RX0 15 "NineMilesOff$Board" "fars" "[I", Cond.fieldLink RX0 57 "NineMilesOff$Land" "nearest" "I", Cond.fieldLink RX0 61 "NineMilesOff$Land" "farthest" "I", Cond.methodLink RX0 40 yX3_heightAt, Cond.instanceMethod yX3_heightAt, Cond.selects RX3 yX3_heightAt yX3_heightAt, Cond.code yX3_heightAt cX3_heightAt 2 (some .int), Cond.fieldLink RX3 9 "NineMilesOff$Land" "kinds" "[I", Cond.fieldLink RX3 15 "NineMilesOff$Land" "figures" "[I", Cond.methodLink RX3 49 yX2_heightOf, Cond.static yX2_heightOf, Cond.initialized RX2, Cond.code yX2_heightOf cX2_heightOf 2 (some .int), Cond.methodLink RX0 51 yX7_apart, Cond.static yX7_apart, Cond.initialized RX7, Cond.code yX7_apart cX7_apart 2 (some .int), Cond.methodLink RX7 19 Lib.Math.abs.name]
def wsX10_see_r3 : List Cond := [Cond.methodLink RX0 64 yX0_bound, Cond.instanceMethod yX0_bound, Cond.selects RX0 yX0_bound yX0_bound, Cond.code yX0_bound cX0_bound 8 none, Cond.fieldLink RX0 18 "NineMilesOff$Board" "near" "[J", Cond.methodLink RX0 68 yX3_openCells, Cond.instanceMethod yX3_openCells, Cond.selects RX3 yX3_openCells yX3_openCells, Cond.code yX3_openCells cX3_openCells 4 (some .long), Cond.methodLink RX3 60 yX3_isOpen, Cond.instanceMethod yX3_isOpen, Cond.selects RX3 yX3_isOpen yX3_isOpen, Cond.code yX3_isOpen cX3_isOpen 2 (some .boolean), Cond.fieldLink RX3 18 "NineMilesOff$Land" "winter" "I", Cond.methodLink RX3 53 yX2_isOpen, Cond.static yX2_isOpen, Cond.code yX2_isOpen cX2_isOpen 3 (some .boolean), Cond.methodLink RX3 63 yX7_bit, Cond.static yX7_bit, Cond.code yX7_bit cX7_bit 1 (some .long), Cond.methodLink RX0 72 yX0_admit, Cond.instanceMethod yX0_admit, Cond.selects RX0 yX0_admit yX0_admit, Cond.code yX0_admit cX0_admit 4 none]
def wsX10_see_r4 : List Cond := [Cond.fieldLink RX0 22 "NineMilesOff$Board" "fit" "[J", Cond.methodLink RX0 76 yX7_has, Cond.static yX7_has, Cond.code yX7_has cX7_has 3 (some .boolean), Cond.methodLink RX7 11 yX7_bit, Cond.methodLink RX10 199 yX0_daysBetween, Cond.instanceMethod yX0_daysBetween, Cond.selects RX0 yX0_daysBetween yX0_daysBetween, Cond.code yX0_daysBetween cX0_daysBetween 6 (some .int), Cond.fieldLink RX0 25 "NineMilesOff$Board" "come" "[J", Cond.methodLink RX0 103 yX0_isPair, Cond.instanceMethod yX0_isPair, Cond.selects RX0 yX0_isPair yX0_isPair, Cond.code yX0_isPair cX0_isPair 3 (some .boolean), Cond.methodLink RX0 127 yX0_start, Cond.instanceMethod yX0_start, Cond.selects RX0 yX0_start yX0_start, Cond.code yX0_start cX0_start 3 none, Cond.fieldLink RX0 31 "NineMilesOff$Board" "days" "[I", Cond.methodLink RX0 94 yJ7_fill_53178, Cond.static yJ7_fill_53178, Cond.initialized RJ7, Cond.code yJ7_fill_53178 cJ7_fill_53178 4 none, Cond.methodLink RX0 100 yJ7_fill_d0a16]
def wsX10_see_r5 : List Cond := [Cond.static yJ7_fill_d0a16, Cond.code yJ7_fill_d0a16 cJ7_fill_d0a16 5 none, Cond.methodLink RX0 107 yX7_bit, Cond.methodLink RX0 130 yX0_spreadOn, Cond.instanceMethod yX0_spreadOn, Cond.selects RX0 yX0_spreadOn yX0_spreadOn, Cond.code yX0_spreadOn cX0_spreadOn 4 (some .boolean), Cond.fieldLink RX0 28 "NineMilesOff$Board" "fresh" "[J", Cond.constantLong RX0 118 (-1), Cond.methodLink RX0 111 yX0_comeAround, Cond.instanceMethod yX0_comeAround, Cond.selects RX0 yX0_comeAround yX0_comeAround, Cond.code yX0_comeAround cX0_comeAround 6 (some .long), Cond.methodLink RX0 124 yX7_cellTo, Cond.static yX7_cellTo, Cond.code yX7_cellTo cX7_cellTo 2 (some .int), Cond.methodLink RX0 114 yX7_spread, Cond.static yX7_spread, Cond.code yX7_spread cX7_spread 4 (some .long), Cond.constantLong RX7 29 (-1090785346), Cond.constantLong RX7 31 (-34905131041), Cond.constantLong RX7 33 (68719476735), Cond.methodLink RX0 120 yX0_mark, Cond.instanceMethod yX0_mark]
def wsX10_see_r6 : List Cond := [Cond.selects RX0 yX0_mark yX0_mark, Cond.code yX0_mark cX0_mark 6 none]
def wsX10_see : List Cond := .code yX10_see cX10_see 4 (some .int) :: ((wsX10_see_r1 ++ (wsX10_see_r2 ++ (wsX10_see_r3 ++ (wsX10_see_r4 ++ (wsX10_see_r5 ++ wsX10_see_r6))))) ++ wsX100 ++ wsX30 ++ wsX00)
def wsX10_way_r1 : List Cond := [Cond.fieldLink RX10 25 "NineMilesOff" "board" "LNineMilesOff$Board;", Cond.fieldLink RX10 12 "NineMilesOff" "now" "LNineMilesOff$Land;", Cond.fieldLink RX10 119 "NineMilesOff$Land" "his" "I", Cond.fieldLink RX10 122 "NineMilesOff$Land" "hers" "I", Cond.methodLink RX10 196 yX10_refusalToSee, Cond.instanceMethod yX10_refusalToSee, Cond.selects RX10 yX10_refusalToSee yX10_refusalToSee, Cond.initialized RX10, Cond.code yX10_refusalToSee cX10_refusalToSee 3 (some .int), Cond.methodLink RX10 83 yX10_isCell, Cond.static yX10_isCell, Cond.code yX10_isCell cX10_isCell 2 (some .boolean), Cond.constantLong RX10 383 (36), Cond.methodLink RX10 218 yX3_bothStand, Cond.instanceMethod yX3_bothStand, Cond.selects RX3 yX3_bothStand yX3_bothStand, Cond.initialized RX3, Cond.code yX3_bothStand cX3_bothStand 1 (some .boolean), Cond.fieldLink RX3 28 "NineMilesOff$Land" "his" "I", Cond.fieldLink RX3 31 "NineMilesOff$Land" "hers" "I", Cond.methodLink RX10 162 yX0_lay, Cond.instanceMethod yX0_lay, Cond.selects RX0 yX0_lay yX0_lay, Cond.initialized RX0]
def wsX10_way_r2 : List Cond := [Cond.code yX0_lay cX0_lay 5 none, Cond.fieldLink RX0 9 "NineMilesOff$Board" "heights" "[I", Cond.methodLink RX0 46 Lib.Math.abs.name, Cond.static Lib.Math.abs.name, Cond.initialized "java/lang/Math", Cond.code Lib.Math.abs.name Lib.Math.abs.code 1 (some .int), Cond.fieldLink RX0 15 "NineMilesOff$Board" "fars" "[I", Cond.fieldLink RX0 57 "NineMilesOff$Land" "nearest" "I", Cond.fieldLink RX0 61 "NineMilesOff$Land" "farthest" "I", Cond.methodLink RX0 40 yX3_heightAt, Cond.instanceMethod yX3_heightAt, Cond.selects RX3 yX3_heightAt yX3_heightAt, Cond.code yX3_heightAt cX3_heightAt 2 (some .int), Cond.fieldLink RX3 9 "NineMilesOff$Land" "kinds" "[I", Cond.fieldLink RX3 15 "NineMilesOff$Land" "figures" "[I", Cond.methodLink RX3 49 yX2_heightOf, Cond.static yX2_heightOf, Cond.initialized RX2, Cond.code yX2_heightOf cX2_heightOf 2 (some .int), Cond.methodLink RX0 51 yX7_apart, Cond.static yX7_apart, Cond.initialized RX7, Cond.code yX7_apart cX7_apart 2 (some .int), Cond.methodLink RX7 19 Lib.Math.abs.name]
def wsX10_way_r3 : List Cond := [Cond.methodLink RX0 64 yX0_bound, Cond.instanceMethod yX0_bound, Cond.selects RX0 yX0_bound yX0_bound, Cond.code yX0_bound cX0_bound 8 none, Cond.fieldLink RX0 18 "NineMilesOff$Board" "near" "[J", Cond.methodLink RX0 68 yX3_openCells, Cond.instanceMethod yX3_openCells, Cond.selects RX3 yX3_openCells yX3_openCells, Cond.code yX3_openCells cX3_openCells 4 (some .long), Cond.methodLink RX3 60 yX3_isOpen, Cond.instanceMethod yX3_isOpen, Cond.selects RX3 yX3_isOpen yX3_isOpen, Cond.code yX3_isOpen cX3_isOpen 2 (some .boolean), Cond.fieldLink RX3 18 "NineMilesOff$Land" "winter" "I", Cond.methodLink RX3 53 yX2_isOpen, Cond.static yX2_isOpen, Cond.code yX2_isOpen cX2_isOpen 3 (some .boolean), Cond.methodLink RX3 63 yX7_bit, Cond.static yX7_bit, Cond.code yX7_bit cX7_bit 1 (some .long), Cond.methodLink RX0 72 yX0_admit, Cond.instanceMethod yX0_admit, Cond.selects RX0 yX0_admit yX0_admit, Cond.code yX0_admit cX0_admit 4 none]
def wsX10_way_r4 : List Cond := [Cond.fieldLink RX0 22 "NineMilesOff$Board" "fit" "[J", Cond.methodLink RX0 76 yX7_has, Cond.static yX7_has, Cond.code yX7_has cX7_has 3 (some .boolean), Cond.methodLink RX7 11 yX7_bit, Cond.methodLink RX10 199 yX0_daysBetween, Cond.instanceMethod yX0_daysBetween, Cond.selects RX0 yX0_daysBetween yX0_daysBetween, Cond.code yX0_daysBetween cX0_daysBetween 6 (some .int), Cond.fieldLink RX0 25 "NineMilesOff$Board" "come" "[J", Cond.methodLink RX0 103 yX0_isPair, Cond.instanceMethod yX0_isPair, Cond.selects RX0 yX0_isPair yX0_isPair, Cond.code yX0_isPair cX0_isPair 3 (some .boolean), Cond.methodLink RX0 127 yX0_start, Cond.instanceMethod yX0_start, Cond.selects RX0 yX0_start yX0_start, Cond.code yX0_start cX0_start 3 none, Cond.fieldLink RX0 31 "NineMilesOff$Board" "days" "[I", Cond.methodLink RX0 94 yJ7_fill_53178, Cond.static yJ7_fill_53178, Cond.initialized RJ7, Cond.code yJ7_fill_53178 cJ7_fill_53178 4 none, Cond.methodLink RX0 100 yJ7_fill_d0a16]
def wsX10_way_r5 : List Cond := [Cond.static yJ7_fill_d0a16, Cond.code yJ7_fill_d0a16 cJ7_fill_d0a16 5 none, Cond.methodLink RX0 107 yX7_bit, Cond.methodLink RX0 130 yX0_spreadOn, Cond.instanceMethod yX0_spreadOn, Cond.selects RX0 yX0_spreadOn yX0_spreadOn, Cond.code yX0_spreadOn cX0_spreadOn 4 (some .boolean), Cond.fieldLink RX0 28 "NineMilesOff$Board" "fresh" "[J", Cond.constantLong RX0 118 (-1), Cond.methodLink RX0 111 yX0_comeAround, Cond.instanceMethod yX0_comeAround, Cond.selects RX0 yX0_comeAround yX0_comeAround, Cond.code yX0_comeAround cX0_comeAround 6 (some .long), Cond.methodLink RX0 124 yX7_cellTo, Cond.static yX7_cellTo, Cond.code yX7_cellTo cX7_cellTo 2 (some .int), Cond.methodLink RX0 114 yX7_spread, Cond.static yX7_spread, Cond.code yX7_spread cX7_spread 4 (some .long), Cond.constantLong RX7 29 (-1090785346), Cond.constantLong RX7 31 (-34905131041), Cond.constantLong RX7 33 (68719476735), Cond.methodLink RX0 120 yX0_mark, Cond.instanceMethod yX0_mark]
def wsX10_way_r6 : List Cond := [Cond.selects RX0 yX0_mark yX0_mark, Cond.code yX0_mark cX0_mark 6 none, Cond.methodLink RX10 203 yX0_pairOnWay, Cond.instanceMethod yX0_pairOnWay, Cond.selects RX0 yX0_pairOnWay yX0_pairOnWay, Cond.code yX0_pairOnWay cX0_pairOnWay 6 (some .int), Cond.methodLink RX0 134 yX0_nextPair, Cond.instanceMethod yX0_nextPair, Cond.selects RX0 yX0_nextPair yX0_nextPair, Cond.code yX0_nextPair cX0_nextPair 10 (some .int), Cond.methodLink RX0 137 yX0_daysLeft, Cond.instanceMethod yX0_daysLeft, Cond.selects RX0 yX0_daysLeft yX0_daysLeft, Cond.code yX0_daysLeft cX0_daysLeft 3 (some .int)]
def wsX10_way : List Cond := .code yX10_way cX10_way 6 (some .int) :: ((wsX10_way_r1 ++ (wsX10_way_r2 ++ (wsX10_way_r3 ++ (wsX10_way_r4 ++ (wsX10_way_r5 ++ wsX10_way_r6))))) ++ wsX100 ++ wsX30 ++ wsX00)
def wsX10_hinders_r1 : List Cond := [Cond.fieldLink RX10 25 "NineMilesOff" "board" "LNineMilesOff$Board;", Cond.fieldLink RX10 12 "NineMilesOff" "now" "LNineMilesOff$Land;", Cond.fieldLink RX10 119 "NineMilesOff$Land" "his" "I", Cond.fieldLink RX10 122 "NineMilesOff$Land" "hers" "I", Cond.methodLink RX10 196 yX10_refusalToSee, Cond.instanceMethod yX10_refusalToSee, Cond.selects RX10 yX10_refusalToSee yX10_refusalToSee, Cond.initialized RX10, Cond.code yX10_refusalToSee cX10_refusalToSee 3 (some .int), Cond.methodLink RX10 83 yX10_isCell, Cond.static yX10_isCell, Cond.code yX10_isCell cX10_isCell 2 (some .boolean), Cond.constantLong RX10 383 (36), Cond.methodLink RX10 218 yX3_bothStand, Cond.instanceMethod yX3_bothStand, Cond.selects RX3 yX3_bothStand yX3_bothStand, Cond.initialized RX3, Cond.code yX3_bothStand cX3_bothStand 1 (some .boolean), Cond.fieldLink RX3 28 "NineMilesOff$Land" "his" "I", Cond.fieldLink RX3 31 "NineMilesOff$Land" "hers" "I", Cond.methodLink RX10 162 yX0_lay, Cond.instanceMethod yX0_lay, Cond.selects RX0 yX0_lay yX0_lay, Cond.initialized RX0]
def wsX10_hinders_r2 : List Cond := [Cond.code yX0_lay cX0_lay 5 none, Cond.fieldLink RX0 9 "NineMilesOff$Board" "heights" "[I", Cond.methodLink RX0 46 Lib.Math.abs.name, Cond.static Lib.Math.abs.name, Cond.initialized "java/lang/Math", Cond.code Lib.Math.abs.name Lib.Math.abs.code 1 (some .int), Cond.fieldLink RX0 15 "NineMilesOff$Board" "fars" "[I", Cond.fieldLink RX0 57 "NineMilesOff$Land" "nearest" "I", Cond.fieldLink RX0 61 "NineMilesOff$Land" "farthest" "I", Cond.methodLink RX0 40 yX3_heightAt, Cond.instanceMethod yX3_heightAt, Cond.selects RX3 yX3_heightAt yX3_heightAt, Cond.code yX3_heightAt cX3_heightAt 2 (some .int), Cond.fieldLink RX3 9 "NineMilesOff$Land" "kinds" "[I", Cond.fieldLink RX3 15 "NineMilesOff$Land" "figures" "[I", Cond.methodLink RX3 49 yX2_heightOf, Cond.static yX2_heightOf, Cond.initialized RX2, Cond.code yX2_heightOf cX2_heightOf 2 (some .int), Cond.methodLink RX0 51 yX7_apart, Cond.static yX7_apart, Cond.initialized RX7, Cond.code yX7_apart cX7_apart 2 (some .int), Cond.methodLink RX7 19 Lib.Math.abs.name]
def wsX10_hinders_r3 : List Cond := [Cond.methodLink RX0 64 yX0_bound, Cond.instanceMethod yX0_bound, Cond.selects RX0 yX0_bound yX0_bound, Cond.code yX0_bound cX0_bound 8 none, Cond.fieldLink RX0 18 "NineMilesOff$Board" "near" "[J", Cond.methodLink RX0 68 yX3_openCells, Cond.instanceMethod yX3_openCells, Cond.selects RX3 yX3_openCells yX3_openCells, Cond.code yX3_openCells cX3_openCells 4 (some .long), Cond.methodLink RX3 60 yX3_isOpen, Cond.instanceMethod yX3_isOpen, Cond.selects RX3 yX3_isOpen yX3_isOpen, Cond.code yX3_isOpen cX3_isOpen 2 (some .boolean), Cond.fieldLink RX3 18 "NineMilesOff$Land" "winter" "I", Cond.methodLink RX3 53 yX2_isOpen, Cond.static yX2_isOpen, Cond.code yX2_isOpen cX2_isOpen 3 (some .boolean), Cond.methodLink RX3 63 yX7_bit, Cond.static yX7_bit, Cond.code yX7_bit cX7_bit 1 (some .long), Cond.methodLink RX0 72 yX0_admit, Cond.instanceMethod yX0_admit, Cond.selects RX0 yX0_admit yX0_admit, Cond.code yX0_admit cX0_admit 4 none]
def wsX10_hinders_r4 : List Cond := [Cond.fieldLink RX0 22 "NineMilesOff$Board" "fit" "[J", Cond.methodLink RX0 76 yX7_has, Cond.static yX7_has, Cond.code yX7_has cX7_has 3 (some .boolean), Cond.methodLink RX7 11 yX7_bit, Cond.methodLink RX10 199 yX0_daysBetween, Cond.instanceMethod yX0_daysBetween, Cond.selects RX0 yX0_daysBetween yX0_daysBetween, Cond.code yX0_daysBetween cX0_daysBetween 6 (some .int), Cond.fieldLink RX0 25 "NineMilesOff$Board" "come" "[J", Cond.methodLink RX0 103 yX0_isPair, Cond.instanceMethod yX0_isPair, Cond.selects RX0 yX0_isPair yX0_isPair, Cond.code yX0_isPair cX0_isPair 3 (some .boolean), Cond.methodLink RX0 127 yX0_start, Cond.instanceMethod yX0_start, Cond.selects RX0 yX0_start yX0_start, Cond.code yX0_start cX0_start 3 none, Cond.fieldLink RX0 31 "NineMilesOff$Board" "days" "[I", Cond.methodLink RX0 94 yJ7_fill_53178, Cond.static yJ7_fill_53178, Cond.initialized RJ7, Cond.code yJ7_fill_53178 cJ7_fill_53178 4 none, Cond.methodLink RX0 100 yJ7_fill_d0a16]
def wsX10_hinders_r5 : List Cond := [Cond.static yJ7_fill_d0a16, Cond.code yJ7_fill_d0a16 cJ7_fill_d0a16 5 none, Cond.methodLink RX0 107 yX7_bit, Cond.methodLink RX0 130 yX0_spreadOn, Cond.instanceMethod yX0_spreadOn, Cond.selects RX0 yX0_spreadOn yX0_spreadOn, Cond.code yX0_spreadOn cX0_spreadOn 4 (some .boolean), Cond.fieldLink RX0 28 "NineMilesOff$Board" "fresh" "[J", Cond.constantLong RX0 118 (-1), Cond.methodLink RX0 111 yX0_comeAround, Cond.instanceMethod yX0_comeAround, Cond.selects RX0 yX0_comeAround yX0_comeAround, Cond.code yX0_comeAround cX0_comeAround 6 (some .long), Cond.methodLink RX0 124 yX7_cellTo, Cond.static yX7_cellTo, Cond.code yX7_cellTo cX7_cellTo 2 (some .int), Cond.methodLink RX0 114 yX7_spread, Cond.static yX7_spread, Cond.code yX7_spread cX7_spread 4 (some .long), Cond.constantLong RX7 29 (-1090785346), Cond.constantLong RX7 31 (-34905131041), Cond.constantLong RX7 33 (68719476735), Cond.methodLink RX0 120 yX0_mark, Cond.instanceMethod yX0_mark]
def wsX10_hinders_r6 : List Cond := [Cond.selects RX0 yX0_mark yX0_mark, Cond.code yX0_mark cX0_mark 6 none, Cond.methodLink RX10 152 yX3_openCells, Cond.methodLink RX10 176 yX7_has, Cond.methodLink RX10 207 yX7_bit, Cond.methodLink RX10 211 yX0_admit]
def wsX10_hinders : List Cond := .code yX10_hinders cX10_hinders 10 (some .int) :: ((wsX10_hinders_r1 ++ (wsX10_hinders_r2 ++ (wsX10_hinders_r3 ++ (wsX10_hinders_r4 ++ (wsX10_hinders_r5 ++ wsX10_hinders_r6))))) ++ wsX100 ++ wsX30 ++ wsX00)
def wsX10_needs_r1 : List Cond := [Cond.fieldLink RX10 25 "NineMilesOff" "board" "LNineMilesOff$Board;", Cond.fieldLink RX10 12 "NineMilesOff" "now" "LNineMilesOff$Land;", Cond.fieldLink RX10 132 "NineMilesOff$Land" "nearest" "I", Cond.fieldLink RX10 119 "NineMilesOff$Land" "his" "I", Cond.fieldLink RX10 122 "NineMilesOff$Land" "hers" "I", Cond.methodLink RX10 196 yX10_refusalToSee, Cond.instanceMethod yX10_refusalToSee, Cond.selects RX10 yX10_refusalToSee yX10_refusalToSee, Cond.initialized RX10, Cond.code yX10_refusalToSee cX10_refusalToSee 3 (some .int), Cond.methodLink RX10 83 yX10_isCell, Cond.static yX10_isCell, Cond.code yX10_isCell cX10_isCell 2 (some .boolean), Cond.constantLong RX10 383 (36), Cond.methodLink RX10 218 yX3_bothStand, Cond.instanceMethod yX3_bothStand, Cond.selects RX3 yX3_bothStand yX3_bothStand, Cond.initialized RX3, Cond.code yX3_bothStand cX3_bothStand 1 (some .boolean), Cond.fieldLink RX3 28 "NineMilesOff$Land" "his" "I", Cond.fieldLink RX3 31 "NineMilesOff$Land" "hers" "I", Cond.methodLink RX10 162 yX0_lay, Cond.instanceMethod yX0_lay, Cond.selects RX0 yX0_lay yX0_lay]
def wsX10_needs_r2 : List Cond := [Cond.initialized RX0, Cond.code yX0_lay cX0_lay 5 none, Cond.fieldLink RX0 9 "NineMilesOff$Board" "heights" "[I", Cond.methodLink RX0 46 Lib.Math.abs.name, Cond.static Lib.Math.abs.name, Cond.initialized "java/lang/Math", Cond.code Lib.Math.abs.name Lib.Math.abs.code 1 (some .int), Cond.fieldLink RX0 15 "NineMilesOff$Board" "fars" "[I", Cond.fieldLink RX0 57 "NineMilesOff$Land" "nearest" "I", Cond.fieldLink RX0 61 "NineMilesOff$Land" "farthest" "I", Cond.methodLink RX0 40 yX3_heightAt, Cond.instanceMethod yX3_heightAt, Cond.selects RX3 yX3_heightAt yX3_heightAt, Cond.code yX3_heightAt cX3_heightAt 2 (some .int), Cond.fieldLink RX3 9 "NineMilesOff$Land" "kinds" "[I", Cond.fieldLink RX3 15 "NineMilesOff$Land" "figures" "[I", Cond.methodLink RX3 49 yX2_heightOf, Cond.static yX2_heightOf, Cond.initialized RX2, Cond.code yX2_heightOf cX2_heightOf 2 (some .int), Cond.methodLink RX0 51 yX7_apart, Cond.static yX7_apart, Cond.initialized RX7, Cond.code yX7_apart cX7_apart 2 (some .int)]
def wsX10_needs_r3 : List Cond := [Cond.methodLink RX7 19 Lib.Math.abs.name, Cond.methodLink RX0 64 yX0_bound, Cond.instanceMethod yX0_bound, Cond.selects RX0 yX0_bound yX0_bound, Cond.code yX0_bound cX0_bound 8 none, Cond.fieldLink RX0 18 "NineMilesOff$Board" "near" "[J", Cond.methodLink RX0 68 yX3_openCells, Cond.instanceMethod yX3_openCells, Cond.selects RX3 yX3_openCells yX3_openCells, Cond.code yX3_openCells cX3_openCells 4 (some .long), Cond.methodLink RX3 60 yX3_isOpen, Cond.instanceMethod yX3_isOpen, Cond.selects RX3 yX3_isOpen yX3_isOpen, Cond.code yX3_isOpen cX3_isOpen 2 (some .boolean), Cond.fieldLink RX3 18 "NineMilesOff$Land" "winter" "I", Cond.methodLink RX3 53 yX2_isOpen, Cond.static yX2_isOpen, Cond.code yX2_isOpen cX2_isOpen 3 (some .boolean), Cond.methodLink RX3 63 yX7_bit, Cond.static yX7_bit, Cond.code yX7_bit cX7_bit 1 (some .long), Cond.methodLink RX0 72 yX0_admit, Cond.instanceMethod yX0_admit, Cond.selects RX0 yX0_admit yX0_admit]
def wsX10_needs_r4 : List Cond := [Cond.code yX0_admit cX0_admit 4 none, Cond.fieldLink RX0 22 "NineMilesOff$Board" "fit" "[J", Cond.methodLink RX0 76 yX7_has, Cond.static yX7_has, Cond.code yX7_has cX7_has 3 (some .boolean), Cond.methodLink RX7 11 yX7_bit, Cond.methodLink RX10 152 yX3_openCells, Cond.methodLink RX10 215 yX0_bound, Cond.methodLink RX10 211 yX0_admit, Cond.methodLink RX10 199 yX0_daysBetween, Cond.instanceMethod yX0_daysBetween, Cond.selects RX0 yX0_daysBetween yX0_daysBetween, Cond.code yX0_daysBetween cX0_daysBetween 6 (some .int), Cond.fieldLink RX0 25 "NineMilesOff$Board" "come" "[J", Cond.methodLink RX0 103 yX0_isPair, Cond.instanceMethod yX0_isPair, Cond.selects RX0 yX0_isPair yX0_isPair, Cond.code yX0_isPair cX0_isPair 3 (some .boolean), Cond.methodLink RX0 127 yX0_start, Cond.instanceMethod yX0_start, Cond.selects RX0 yX0_start yX0_start, Cond.code yX0_start cX0_start 3 none, Cond.fieldLink RX0 31 "NineMilesOff$Board" "days" "[I", Cond.methodLink RX0 94 yJ7_fill_53178]
def wsX10_needs_r5 : List Cond := [Cond.static yJ7_fill_53178, Cond.initialized RJ7, Cond.code yJ7_fill_53178 cJ7_fill_53178 4 none, Cond.methodLink RX0 100 yJ7_fill_d0a16, Cond.static yJ7_fill_d0a16, Cond.code yJ7_fill_d0a16 cJ7_fill_d0a16 5 none, Cond.methodLink RX0 107 yX7_bit, Cond.methodLink RX0 130 yX0_spreadOn, Cond.instanceMethod yX0_spreadOn, Cond.selects RX0 yX0_spreadOn yX0_spreadOn, Cond.code yX0_spreadOn cX0_spreadOn 4 (some .boolean), Cond.fieldLink RX0 28 "NineMilesOff$Board" "fresh" "[J", Cond.constantLong RX0 118 (-1), Cond.methodLink RX0 111 yX0_comeAround, Cond.instanceMethod yX0_comeAround, Cond.selects RX0 yX0_comeAround yX0_comeAround, Cond.code yX0_comeAround cX0_comeAround 6 (some .long), Cond.methodLink RX0 124 yX7_cellTo, Cond.static yX7_cellTo, Cond.code yX7_cellTo cX7_cellTo 2 (some .int), Cond.methodLink RX0 114 yX7_spread, Cond.static yX7_spread, Cond.code yX7_spread cX7_spread 4 (some .long), Cond.constantLong RX7 29 (-1090785346)]
def wsX10_needs_r6 : List Cond := [Cond.constantLong RX7 31 (-34905131041), Cond.constantLong RX7 33 (68719476735), Cond.methodLink RX0 120 yX0_mark, Cond.instanceMethod yX0_mark, Cond.selects RX0 yX0_mark yX0_mark, Cond.code yX0_mark cX0_mark 6 none]
def wsX10_needs : List Cond := .code yX10_needs cX10_needs 7 (some .int) :: ((wsX10_needs_r1 ++ (wsX10_needs_r2 ++ (wsX10_needs_r3 ++ (wsX10_needs_r4 ++ (wsX10_needs_r5 ++ wsX10_needs_r6))))) ++ wsX100 ++ wsX30 ++ wsX00)
def wsX10_within_r1 : List Cond := [Cond.fieldLink RX10 12 "NineMilesOff" "now" "LNineMilesOff$Land;", Cond.fieldLink RX10 25 "NineMilesOff" "board" "LNineMilesOff$Board;", Cond.fieldLink RX10 119 "NineMilesOff$Land" "his" "I", Cond.fieldLink RX10 122 "NineMilesOff$Land" "hers" "I", Cond.methodLink RX10 218 yX3_bothStand, Cond.instanceMethod yX3_bothStand, Cond.selects RX3 yX3_bothStand yX3_bothStand, Cond.initialized RX3, Cond.code yX3_bothStand cX3_bothStand 1 (some .boolean), Cond.fieldLink RX3 28 "NineMilesOff$Land" "his" "I", Cond.fieldLink RX3 31 "NineMilesOff$Land" "hers" "I", Cond.methodLink RX10 162 yX0_lay, Cond.instanceMethod yX0_lay, Cond.selects RX0 yX0_lay yX0_lay, Cond.initialized RX0, Cond.code yX0_lay cX0_lay 5 none, Cond.fieldLink RX0 9 "NineMilesOff$Board" "heights" "[I", Cond.methodLink RX0 46 Lib.Math.abs.name, Cond.static Lib.Math.abs.name, Cond.initialized "java/lang/Math", Cond.code Lib.Math.abs.name Lib.Math.abs.code 1 (some .int), Cond.fieldLink RX0 15 "NineMilesOff$Board" "fars" "[I", Cond.fieldLink RX0 57 "NineMilesOff$Land" "nearest" "I", Cond.fieldLink RX0 61 "NineMilesOff$Land" "farthest" "I"]
def wsX10_within_r2 : List Cond := [Cond.methodLink RX0 40 yX3_heightAt, Cond.instanceMethod yX3_heightAt, Cond.selects RX3 yX3_heightAt yX3_heightAt, Cond.code yX3_heightAt cX3_heightAt 2 (some .int), Cond.fieldLink RX3 9 "NineMilesOff$Land" "kinds" "[I", Cond.fieldLink RX3 15 "NineMilesOff$Land" "figures" "[I", Cond.static yX10_isCell, Cond.initialized RX10, Cond.code yX10_isCell cX10_isCell 2 (some .boolean), Cond.constantLong RX10 383 (36), Cond.methodLink RX3 49 yX2_heightOf, Cond.static yX2_heightOf, Cond.initialized RX2, Cond.code yX2_heightOf cX2_heightOf 2 (some .int), Cond.methodLink RX0 51 yX7_apart, Cond.static yX7_apart, Cond.initialized RX7, Cond.code yX7_apart cX7_apart 2 (some .int), Cond.methodLink RX7 19 Lib.Math.abs.name, Cond.methodLink RX0 64 yX0_bound, Cond.instanceMethod yX0_bound, Cond.selects RX0 yX0_bound yX0_bound, Cond.code yX0_bound cX0_bound 8 none, Cond.fieldLink RX0 18 "NineMilesOff$Board" "near" "[J"]
def wsX10_within_r3 : List Cond := [Cond.methodLink RX0 68 yX3_openCells, Cond.instanceMethod yX3_openCells, Cond.selects RX3 yX3_openCells yX3_openCells, Cond.code yX3_openCells cX3_openCells 4 (some .long), Cond.methodLink RX3 60 yX3_isOpen, Cond.instanceMethod yX3_isOpen, Cond.selects RX3 yX3_isOpen yX3_isOpen, Cond.code yX3_isOpen cX3_isOpen 2 (some .boolean), Cond.fieldLink RX3 18 "NineMilesOff$Land" "winter" "I", Cond.methodLink RX3 53 yX2_isOpen, Cond.static yX2_isOpen, Cond.code yX2_isOpen cX2_isOpen 3 (some .boolean), Cond.methodLink RX3 63 yX7_bit, Cond.static yX7_bit, Cond.code yX7_bit cX7_bit 1 (some .long), Cond.methodLink RX0 72 yX0_admit, Cond.instanceMethod yX0_admit, Cond.selects RX0 yX0_admit yX0_admit, Cond.code yX0_admit cX0_admit 4 none, Cond.fieldLink RX0 22 "NineMilesOff$Board" "fit" "[J", Cond.methodLink RX0 76 yX7_has, Cond.static yX7_has, Cond.code yX7_has cX7_has 3 (some .boolean), Cond.methodLink RX7 11 yX7_bit]
def wsX10_within_r4 : List Cond := [Cond.methodLink RX10 222 yX0_pairsWithin, Cond.instanceMethod yX0_pairsWithin, Cond.selects RX0 yX0_pairsWithin yX0_pairsWithin, Cond.code yX0_pairsWithin cX0_pairsWithin 5 (some .int), Cond.fieldLink RX0 25 "NineMilesOff$Board" "come" "[J", Cond.methodLink RX0 127 yX0_start, Cond.instanceMethod yX0_start, Cond.selects RX0 yX0_start yX0_start, Cond.code yX0_start cX0_start 3 none, Cond.fieldLink RX0 31 "NineMilesOff$Board" "days" "[I", Cond.methodLink RX0 94 yJ7_fill_53178, Cond.static yJ7_fill_53178, Cond.initialized RJ7, Cond.code yJ7_fill_53178 cJ7_fill_53178 4 none, Cond.methodLink RX0 100 yJ7_fill_d0a16, Cond.static yJ7_fill_d0a16, Cond.code yJ7_fill_d0a16 cJ7_fill_d0a16 5 none, Cond.methodLink RX0 103 yX0_isPair, Cond.instanceMethod yX0_isPair, Cond.selects RX0 yX0_isPair yX0_isPair, Cond.code yX0_isPair cX0_isPair 3 (some .boolean), Cond.methodLink RX0 107 yX7_bit, Cond.methodLink RX0 130 yX0_spreadOn, Cond.instanceMethod yX0_spreadOn]
def wsX10_within_r5 : List Cond := [Cond.selects RX0 yX0_spreadOn yX0_spreadOn, Cond.code yX0_spreadOn cX0_spreadOn 4 (some .boolean), Cond.fieldLink RX0 28 "NineMilesOff$Board" "fresh" "[J", Cond.constantLong RX0 118 (-1), Cond.methodLink RX0 111 yX0_comeAround, Cond.instanceMethod yX0_comeAround, Cond.selects RX0 yX0_comeAround yX0_comeAround, Cond.code yX0_comeAround cX0_comeAround 6 (some .long), Cond.methodLink RX0 124 yX7_cellTo, Cond.static yX7_cellTo, Cond.code yX7_cellTo cX7_cellTo 2 (some .int), Cond.methodLink RX0 114 yX7_spread, Cond.static yX7_spread, Cond.code yX7_spread cX7_spread 4 (some .long), Cond.constantLong RX7 29 (-1090785346), Cond.constantLong RX7 31 (-34905131041), Cond.constantLong RX7 33 (68719476735), Cond.methodLink RX0 120 yX0_mark, Cond.instanceMethod yX0_mark, Cond.selects RX0 yX0_mark yX0_mark, Cond.code yX0_mark cX0_mark 6 none, Cond.methodLink RX0 84 yX0_bitsOf, Cond.static yX0_bitsOf, Cond.code yX0_bitsOf cX0_bitsOf 3 (some .int)]
def wsX10_within_r6 : List Cond := [Cond.methodLink RX0 88 yJ13_bitCount_95d88, Cond.static yJ13_bitCount_95d88, Cond.initialized RJ13, Cond.code yJ13_bitCount_95d88 cJ13_bitCount_95d88 2 (some .int), Cond.constantLong RJ13 314 (6148914691236517205), Cond.constantLong RJ13 316 (3689348814741910323), Cond.constantLong RJ13 318 (1085102592571150095)]
def wsX10_within : List Cond := .code yX10_within cX10_within 2 (some .int) :: ((wsX10_within_r1 ++ (wsX10_within_r2 ++ (wsX10_within_r3 ++ (wsX10_within_r4 ++ (wsX10_within_r5 ++ wsX10_within_r6))))) ++ wsX100 ++ wsX30 ++ wsX00)
def wsX10_refusalToCount : List Cond := .code yX10_refusalToCount cX10_refusalToCount 2 (some .int) :: ([.fieldLink RX10 12 "NineMilesOff" "now" "LNineMilesOff$Land;", .methodLink RX10 218 yX3_bothStand, .instanceMethod yX3_bothStand, .selects RX3 yX3_bothStand yX3_bothStand, .initialized RX3, .code yX3_bothStand cX3_bothStand 1 (some .boolean), .fieldLink RX3 28 "NineMilesOff$Land" "his" "I", .fieldLink RX3 31 "NineMilesOff$Land" "hers" "I"] ++ wsX100 ++ wsX30)
def wsX10_ofLongs : List Cond := .code yX10_ofLongs cX10_ofLongs 1 (some .long) :: ([.constantLong RX10 392 (1000000000)])
def wsX10_ways_r1 : List Cond := [Cond.fieldLink RX10 25 "NineMilesOff" "board" "LNineMilesOff$Board;", Cond.fieldLink RX10 12 "NineMilesOff" "now" "LNineMilesOff$Land;", Cond.fieldLink RX10 119 "NineMilesOff$Land" "his" "I", Cond.fieldLink RX10 122 "NineMilesOff$Land" "hers" "I", Cond.methodLink RX10 225 yX10_refusalToCount, Cond.instanceMethod yX10_refusalToCount, Cond.selects RX10 yX10_refusalToCount yX10_refusalToCount, Cond.initialized RX10, Cond.code yX10_refusalToCount cX10_refusalToCount 2 (some .int), Cond.methodLink RX10 218 yX3_bothStand, Cond.instanceMethod yX3_bothStand, Cond.selects RX3 yX3_bothStand yX3_bothStand, Cond.initialized RX3, Cond.code yX3_bothStand cX3_bothStand 1 (some .boolean), Cond.fieldLink RX3 28 "NineMilesOff$Land" "his" "I", Cond.fieldLink RX3 31 "NineMilesOff$Land" "hers" "I", Cond.methodLink RX10 228 yX10_ofLongs, Cond.static yX10_ofLongs, Cond.code yX10_ofLongs cX10_ofLongs 1 (some .long), Cond.constantLong RX10 392 (1000000000), Cond.methodLink RX10 162 yX0_lay, Cond.instanceMethod yX0_lay, Cond.selects RX0 yX0_lay yX0_lay, Cond.initialized RX0]
def wsX10_ways_r2 : List Cond := [Cond.code yX0_lay cX0_lay 5 none, Cond.fieldLink RX0 9 "NineMilesOff$Board" "heights" "[I", Cond.methodLink RX0 46 Lib.Math.abs.name, Cond.static Lib.Math.abs.name, Cond.initialized "java/lang/Math", Cond.code Lib.Math.abs.name Lib.Math.abs.code 1 (some .int), Cond.fieldLink RX0 15 "NineMilesOff$Board" "fars" "[I", Cond.fieldLink RX0 57 "NineMilesOff$Land" "nearest" "I", Cond.fieldLink RX0 61 "NineMilesOff$Land" "farthest" "I", Cond.methodLink RX0 40 yX3_heightAt, Cond.instanceMethod yX3_heightAt, Cond.selects RX3 yX3_heightAt yX3_heightAt, Cond.code yX3_heightAt cX3_heightAt 2 (some .int), Cond.fieldLink RX3 9 "NineMilesOff$Land" "kinds" "[I", Cond.fieldLink RX3 15 "NineMilesOff$Land" "figures" "[I", Cond.static yX10_isCell, Cond.code yX10_isCell cX10_isCell 2 (some .boolean), Cond.constantLong RX10 383 (36), Cond.methodLink RX3 49 yX2_heightOf, Cond.static yX2_heightOf, Cond.initialized RX2, Cond.code yX2_heightOf cX2_heightOf 2 (some .int), Cond.methodLink RX0 51 yX7_apart, Cond.static yX7_apart]
def wsX10_ways_r3 : List Cond := [Cond.initialized RX7, Cond.code yX7_apart cX7_apart 2 (some .int), Cond.methodLink RX7 19 Lib.Math.abs.name, Cond.methodLink RX0 64 yX0_bound, Cond.instanceMethod yX0_bound, Cond.selects RX0 yX0_bound yX0_bound, Cond.code yX0_bound cX0_bound 8 none, Cond.fieldLink RX0 18 "NineMilesOff$Board" "near" "[J", Cond.methodLink RX0 68 yX3_openCells, Cond.instanceMethod yX3_openCells, Cond.selects RX3 yX3_openCells yX3_openCells, Cond.code yX3_openCells cX3_openCells 4 (some .long), Cond.methodLink RX3 60 yX3_isOpen, Cond.instanceMethod yX3_isOpen, Cond.selects RX3 yX3_isOpen yX3_isOpen, Cond.code yX3_isOpen cX3_isOpen 2 (some .boolean), Cond.fieldLink RX3 18 "NineMilesOff$Land" "winter" "I", Cond.methodLink RX3 53 yX2_isOpen, Cond.static yX2_isOpen, Cond.code yX2_isOpen cX2_isOpen 3 (some .boolean), Cond.methodLink RX3 63 yX7_bit, Cond.static yX7_bit, Cond.code yX7_bit cX7_bit 1 (some .long), Cond.methodLink RX0 72 yX0_admit]
def wsX10_ways_r4 : List Cond := [Cond.instanceMethod yX0_admit, Cond.selects RX0 yX0_admit yX0_admit, Cond.code yX0_admit cX0_admit 4 none, Cond.fieldLink RX0 22 "NineMilesOff$Board" "fit" "[J", Cond.methodLink RX0 76 yX7_has, Cond.static yX7_has, Cond.code yX7_has cX7_has 3 (some .boolean), Cond.methodLink RX7 11 yX7_bit, Cond.methodLink RX10 231 yX0_walk, Cond.instanceMethod yX0_walk, Cond.selects RX0 yX0_walk yX0_walk, Cond.code yX0_walk cX0_walk 5 none, Cond.fieldLink RX0 34 "NineMilesOff$Board" "walks" "[J", Cond.methodLink RX0 100 yJ7_fill_d0a16, Cond.static yJ7_fill_d0a16, Cond.initialized RJ7, Cond.code yJ7_fill_d0a16 cJ7_fill_d0a16 5 none, Cond.methodLink RX0 103 yX0_isPair, Cond.instanceMethod yX0_isPair, Cond.selects RX0 yX0_isPair yX0_isPair, Cond.code yX0_isPair cX0_isPair 3 (some .boolean), Cond.methodLink RX0 140 yX0_walkHim, Cond.instanceMethod yX0_walkHim, Cond.selects RX0 yX0_walkHim yX0_walkHim]
def wsX10_ways_r5 : List Cond := [Cond.code yX0_walkHim cX0_walkHim 5 none, Cond.fieldLink RX0 37 "NineMilesOff$Board" "half" "[J", Cond.methodLink RX0 124 yX7_cellTo, Cond.static yX7_cellTo, Cond.code yX7_cellTo cX7_cellTo 2 (some .int), Cond.methodLink RX0 143 yX0_walkHer, Cond.instanceMethod yX0_walkHer, Cond.selects RX0 yX0_walkHer yX0_walkHer, Cond.code yX0_walkHer cX0_walkHer 5 none, Cond.methodLink RX10 234 yX0_walksInAll, Cond.instanceMethod yX0_walksInAll, Cond.selects RX0 yX0_walksInAll yX0_walksInAll, Cond.code yX0_walksInAll cX0_walksInAll 4 (some .long)]
def wsX10_ways : List Cond := .code yX10_ways cX10_ways 3 (some .long) :: ((wsX10_ways_r1 ++ (wsX10_ways_r2 ++ (wsX10_ways_r3 ++ (wsX10_ways_r4 ++ wsX10_ways_r5)))) ++ wsX100 ++ wsX30 ++ wsX00)
def wsX10_rounds_r1 : List Cond := [Cond.fieldLink RX10 25 "NineMilesOff" "board" "LNineMilesOff$Board;", Cond.fieldLink RX10 12 "NineMilesOff" "now" "LNineMilesOff$Land;", Cond.fieldLink RX10 119 "NineMilesOff$Land" "his" "I", Cond.fieldLink RX10 122 "NineMilesOff$Land" "hers" "I", Cond.methodLink RX10 225 yX10_refusalToCount, Cond.instanceMethod yX10_refusalToCount, Cond.selects RX10 yX10_refusalToCount yX10_refusalToCount, Cond.initialized RX10, Cond.code yX10_refusalToCount cX10_refusalToCount 2 (some .int), Cond.methodLink RX10 218 yX3_bothStand, Cond.instanceMethod yX3_bothStand, Cond.selects RX3 yX3_bothStand yX3_bothStand, Cond.initialized RX3, Cond.code yX3_bothStand cX3_bothStand 1 (some .boolean), Cond.fieldLink RX3 28 "NineMilesOff$Land" "his" "I", Cond.fieldLink RX3 31 "NineMilesOff$Land" "hers" "I", Cond.methodLink RX10 228 yX10_ofLongs, Cond.static yX10_ofLongs, Cond.code yX10_ofLongs cX10_ofLongs 1 (some .long), Cond.constantLong RX10 392 (1000000000), Cond.methodLink RX10 162 yX0_lay, Cond.instanceMethod yX0_lay, Cond.selects RX0 yX0_lay yX0_lay, Cond.initialized RX0]
def wsX10_rounds_r2 : List Cond := [Cond.code yX0_lay cX0_lay 5 none, Cond.fieldLink RX0 9 "NineMilesOff$Board" "heights" "[I", Cond.methodLink RX0 46 Lib.Math.abs.name, Cond.static Lib.Math.abs.name, Cond.initialized "java/lang/Math", Cond.code Lib.Math.abs.name Lib.Math.abs.code 1 (some .int), Cond.fieldLink RX0 15 "NineMilesOff$Board" "fars" "[I", Cond.fieldLink RX0 57 "NineMilesOff$Land" "nearest" "I", Cond.fieldLink RX0 61 "NineMilesOff$Land" "farthest" "I", Cond.methodLink RX0 40 yX3_heightAt, Cond.instanceMethod yX3_heightAt, Cond.selects RX3 yX3_heightAt yX3_heightAt, Cond.code yX3_heightAt cX3_heightAt 2 (some .int), Cond.fieldLink RX3 9 "NineMilesOff$Land" "kinds" "[I", Cond.fieldLink RX3 15 "NineMilesOff$Land" "figures" "[I", Cond.static yX10_isCell, Cond.code yX10_isCell cX10_isCell 2 (some .boolean), Cond.constantLong RX10 383 (36), Cond.methodLink RX3 49 yX2_heightOf, Cond.static yX2_heightOf, Cond.initialized RX2, Cond.code yX2_heightOf cX2_heightOf 2 (some .int), Cond.methodLink RX0 51 yX7_apart, Cond.static yX7_apart]
def wsX10_rounds_r3 : List Cond := [Cond.initialized RX7, Cond.code yX7_apart cX7_apart 2 (some .int), Cond.methodLink RX7 19 Lib.Math.abs.name, Cond.methodLink RX0 64 yX0_bound, Cond.instanceMethod yX0_bound, Cond.selects RX0 yX0_bound yX0_bound, Cond.code yX0_bound cX0_bound 8 none, Cond.fieldLink RX0 18 "NineMilesOff$Board" "near" "[J", Cond.methodLink RX0 68 yX3_openCells, Cond.instanceMethod yX3_openCells, Cond.selects RX3 yX3_openCells yX3_openCells, Cond.code yX3_openCells cX3_openCells 4 (some .long), Cond.methodLink RX3 60 yX3_isOpen, Cond.instanceMethod yX3_isOpen, Cond.selects RX3 yX3_isOpen yX3_isOpen, Cond.code yX3_isOpen cX3_isOpen 2 (some .boolean), Cond.fieldLink RX3 18 "NineMilesOff$Land" "winter" "I", Cond.methodLink RX3 53 yX2_isOpen, Cond.static yX2_isOpen, Cond.code yX2_isOpen cX2_isOpen 3 (some .boolean), Cond.methodLink RX3 63 yX7_bit, Cond.static yX7_bit, Cond.code yX7_bit cX7_bit 1 (some .long), Cond.methodLink RX0 72 yX0_admit]
def wsX10_rounds_r4 : List Cond := [Cond.instanceMethod yX0_admit, Cond.selects RX0 yX0_admit yX0_admit, Cond.code yX0_admit cX0_admit 4 none, Cond.fieldLink RX0 22 "NineMilesOff$Board" "fit" "[J", Cond.methodLink RX0 76 yX7_has, Cond.static yX7_has, Cond.code yX7_has cX7_has 3 (some .boolean), Cond.methodLink RX7 11 yX7_bit, Cond.methodLink RX10 231 yX0_walk, Cond.instanceMethod yX0_walk, Cond.selects RX0 yX0_walk yX0_walk, Cond.code yX0_walk cX0_walk 5 none, Cond.fieldLink RX0 34 "NineMilesOff$Board" "walks" "[J", Cond.methodLink RX0 100 yJ7_fill_d0a16, Cond.static yJ7_fill_d0a16, Cond.initialized RJ7, Cond.code yJ7_fill_d0a16 cJ7_fill_d0a16 5 none, Cond.methodLink RX0 103 yX0_isPair, Cond.instanceMethod yX0_isPair, Cond.selects RX0 yX0_isPair yX0_isPair, Cond.code yX0_isPair cX0_isPair 3 (some .boolean), Cond.methodLink RX0 140 yX0_walkHim, Cond.instanceMethod yX0_walkHim, Cond.selects RX0 yX0_walkHim yX0_walkHim]
def wsX10_rounds_r5 : List Cond := [Cond.code yX0_walkHim cX0_walkHim 5 none, Cond.fieldLink RX0 37 "NineMilesOff$Board" "half" "[J", Cond.methodLink RX0 124 yX7_cellTo, Cond.static yX7_cellTo, Cond.code yX7_cellTo cX7_cellTo 2 (some .int), Cond.methodLink RX0 143 yX0_walkHer, Cond.instanceMethod yX0_walkHer, Cond.selects RX0 yX0_walkHer yX0_walkHer, Cond.code yX0_walkHer cX0_walkHer 5 none, Cond.methodLink RX10 237 yX0_walksTo, Cond.instanceMethod yX0_walksTo, Cond.selects RX0 yX0_walksTo yX0_walksTo, Cond.code yX0_walksTo cX0_walksTo 3 (some .long)]
def wsX10_rounds : List Cond := .code yX10_rounds cX10_rounds 3 (some .long) :: ((wsX10_rounds_r1 ++ (wsX10_rounds_r2 ++ (wsX10_rounds_r3 ++ (wsX10_rounds_r4 ++ wsX10_rounds_r5)))) ++ wsX100 ++ wsX30 ++ wsX00)
def wsX10_late_r1 : List Cond := [Cond.fieldLink RX10 12 "NineMilesOff" "now" "LNineMilesOff$Land;", Cond.fieldLink RX10 119 "NineMilesOff$Land" "his" "I", Cond.fieldLink RX10 25 "NineMilesOff" "board" "LNineMilesOff$Board;", Cond.constantLong RX10 251 (-1), Cond.methodLink RX10 83 yX10_isCell, Cond.static yX10_isCell, Cond.initialized RX10, Cond.code yX10_isCell cX10_isCell 2 (some .boolean), Cond.constantLong RX10 383 (36), Cond.methodLink RX10 96 yX3_isOpen, Cond.instanceMethod yX3_isOpen, Cond.selects RX3 yX3_isOpen yX3_isOpen, Cond.initialized RX3, Cond.code yX3_isOpen cX3_isOpen 2 (some .boolean), Cond.fieldLink RX3 9 "NineMilesOff$Land" "kinds" "[I", Cond.fieldLink RX3 15 "NineMilesOff$Land" "figures" "[I", Cond.fieldLink RX3 18 "NineMilesOff$Land" "winter" "I", Cond.methodLink RX3 53 yX2_isOpen, Cond.static yX2_isOpen, Cond.initialized RX2, Cond.code yX2_isOpen cX2_isOpen 3 (some .boolean), Cond.methodLink RX10 162 yX0_lay, Cond.instanceMethod yX0_lay, Cond.selects RX0 yX0_lay yX0_lay]
def wsX10_late_r2 : List Cond := [Cond.initialized RX0, Cond.code yX0_lay cX0_lay 5 none, Cond.fieldLink RX0 9 "NineMilesOff$Board" "heights" "[I", Cond.methodLink RX0 46 Lib.Math.abs.name, Cond.static Lib.Math.abs.name, Cond.initialized "java/lang/Math", Cond.code Lib.Math.abs.name Lib.Math.abs.code 1 (some .int), Cond.fieldLink RX0 15 "NineMilesOff$Board" "fars" "[I", Cond.fieldLink RX0 57 "NineMilesOff$Land" "nearest" "I", Cond.fieldLink RX0 61 "NineMilesOff$Land" "farthest" "I", Cond.methodLink RX0 40 yX3_heightAt, Cond.instanceMethod yX3_heightAt, Cond.selects RX3 yX3_heightAt yX3_heightAt, Cond.code yX3_heightAt cX3_heightAt 2 (some .int), Cond.methodLink RX3 49 yX2_heightOf, Cond.static yX2_heightOf, Cond.code yX2_heightOf cX2_heightOf 2 (some .int), Cond.methodLink RX0 51 yX7_apart, Cond.static yX7_apart, Cond.initialized RX7, Cond.code yX7_apart cX7_apart 2 (some .int), Cond.methodLink RX7 19 Lib.Math.abs.name, Cond.methodLink RX0 64 yX0_bound, Cond.instanceMethod yX0_bound]
def wsX10_late_r3 : List Cond := [Cond.selects RX0 yX0_bound yX0_bound, Cond.code yX0_bound cX0_bound 8 none, Cond.fieldLink RX0 18 "NineMilesOff$Board" "near" "[J", Cond.methodLink RX0 68 yX3_openCells, Cond.instanceMethod yX3_openCells, Cond.selects RX3 yX3_openCells yX3_openCells, Cond.code yX3_openCells cX3_openCells 4 (some .long), Cond.methodLink RX3 60 yX3_isOpen, Cond.methodLink RX3 63 yX7_bit, Cond.static yX7_bit, Cond.code yX7_bit cX7_bit 1 (some .long), Cond.methodLink RX0 72 yX0_admit, Cond.instanceMethod yX0_admit, Cond.selects RX0 yX0_admit yX0_admit, Cond.code yX0_admit cX0_admit 4 none, Cond.fieldLink RX0 22 "NineMilesOff$Board" "fit" "[J", Cond.methodLink RX0 76 yX7_has, Cond.static yX7_has, Cond.code yX7_has cX7_has 3 (some .boolean), Cond.methodLink RX7 11 yX7_bit, Cond.methodLink RX10 152 yX3_openCells, Cond.methodLink RX10 241 yX7_cellsWithin, Cond.static yX7_cellsWithin, Cond.code yX7_cellsWithin cX7_cellsWithin 7 (some .long)]
def wsX10_late_r4 : List Cond := [Cond.methodLink RX7 35 yX7_spread, Cond.static yX7_spread, Cond.code yX7_spread cX7_spread 4 (some .long), Cond.constantLong RX7 29 (-1090785346), Cond.constantLong RX7 31 (-34905131041), Cond.constantLong RX7 33 (68719476735), Cond.methodLink RX10 245 yX3_cellBy, Cond.instanceMethod yX3_cellBy, Cond.selects RX3 yX3_cellBy yX3_cellBy, Cond.code yX3_cellBy cX3_cellBy 4 (some .int), Cond.methodLink RX3 84 yX7_cellTo, Cond.static yX7_cellTo, Cond.code yX7_cellTo cX7_cellTo 2 (some .int), Cond.methodLink RX10 248 yX0_nearOf, Cond.instanceMethod yX0_nearOf, Cond.selects RX0 yX0_nearOf yX0_nearOf, Cond.code yX0_nearOf cX0_nearOf 2 (some .long)]
def wsX10_late : List Cond := .code yX10_late cX10_late 8 (some .int) :: ((wsX10_late_r1 ++ (wsX10_late_r2 ++ (wsX10_late_r3 ++ wsX10_late_r4))) ++ wsX100 ++ wsX30 ++ wsX00)
def wsX10_refusalOfTrack_r1 : List Cond := [Cond.methodLink RX10 54 yX10_refusalOfRow, Cond.instanceMethod yX10_refusalOfRow, Cond.selects RX10 yX10_refusalOfRow yX10_refusalOfRow, Cond.initialized RX10, Cond.code yX10_refusalOfRow cX10_refusalOfRow 2 (some .int), Cond.methodLink RX10 385 yX10_refusalUnless, Cond.instanceMethod yX10_refusalUnless, Cond.selects RX10 yX10_refusalUnless yX10_refusalUnless, Cond.code yX10_refusalUnless cX10_refusalUnless 3 (some .int), Cond.fieldLink RX10 327 "NineMilesOff$Shelf" "holds" "I", Cond.methodLink RX10 296 yX10_isShelf, Cond.static yX10_isShelf, Cond.code yX10_isShelf cX10_isShelf 1 (some .boolean), Cond.methodLink RX10 58 yX10_shelfAt, Cond.instanceMethod yX10_shelfAt, Cond.selects RX10 yX10_shelfAt yX10_shelfAt, Cond.code yX10_shelfAt cX10_shelfAt 2 (some (.object "NineMilesOff$Shelf")), Cond.fieldLink RX10 50 "NineMilesOff" "shelves" "[LNineMilesOff$Shelf;", Cond.fieldLink RX10 46 "NineMilesOff" "noShelf" "LNineMilesOff$Shelf;", Cond.methodLink RX10 388 yX9_isOfCells, Cond.static yX9_isOfCells, Cond.initialized RX9, Cond.code yX9_isOfCells cX9_isOfCells 2 (some .boolean), Cond.fieldLink RX9 21 "NineMilesOff$Shelf" "size" "I"]
def wsX10_refusalOfTrack_r2 : List Cond := [Cond.methodLink RX9 27 yX5_numberAt, Cond.instanceMethod yX5_numberAt, Cond.selects RX5 yX5_numberAt yX5_numberAt, Cond.initialized RX5, Cond.code yX5_numberAt cX5_numberAt 2 (some .long), Cond.fieldLink RX5 24 "NineMilesOff$Shelf" "size" "I", Cond.fieldLink RX5 27 "NineMilesOff$Shelf" "numbers" "[J", Cond.static yX10_isCell, Cond.code yX10_isCell cX10_isCell 2 (some .boolean), Cond.constantLong RX10 383 (36)]
def wsX10_refusalOfTrack : List Cond := .code yX10_refusalOfTrack cX10_refusalOfTrack 3 (some .int) :: ((wsX10_refusalOfTrack_r1 ++ wsX10_refusalOfTrack_r2) ++ wsX50 ++ wsX100)
def wsX10_hisWay_r1 : List Cond := [Cond.fieldLink RX10 25 "NineMilesOff" "board" "LNineMilesOff$Board;", Cond.fieldLink RX10 12 "NineMilesOff" "now" "LNineMilesOff$Land;", Cond.fieldLink RX10 32 "NineMilesOff" "track" "LNineMilesOff$Track;", Cond.methodLink RX10 116 yX10_isEither, Cond.static yX10_isEither, Cond.initialized RX10, Cond.code yX10_isEither cX10_isEither 1 (some .boolean), Cond.methodLink RX10 253 yX10_refusalOfTrack, Cond.instanceMethod yX10_refusalOfTrack, Cond.selects RX10 yX10_refusalOfTrack yX10_refusalOfTrack, Cond.code yX10_refusalOfTrack cX10_refusalOfTrack 3 (some .int), Cond.methodLink RX10 54 yX10_refusalOfRow, Cond.instanceMethod yX10_refusalOfRow, Cond.selects RX10 yX10_refusalOfRow yX10_refusalOfRow, Cond.code yX10_refusalOfRow cX10_refusalOfRow 2 (some .int), Cond.methodLink RX10 385 yX10_refusalUnless, Cond.instanceMethod yX10_refusalUnless, Cond.selects RX10 yX10_refusalUnless yX10_refusalUnless, Cond.code yX10_refusalUnless cX10_refusalUnless 3 (some .int), Cond.fieldLink RX10 327 "NineMilesOff$Shelf" "holds" "I", Cond.methodLink RX10 296 yX10_isShelf, Cond.static yX10_isShelf, Cond.code yX10_isShelf cX10_isShelf 1 (some .boolean), Cond.methodLink RX10 58 yX10_shelfAt]
def wsX10_hisWay_r2 : List Cond := [Cond.instanceMethod yX10_shelfAt, Cond.selects RX10 yX10_shelfAt yX10_shelfAt, Cond.code yX10_shelfAt cX10_shelfAt 2 (some (.object "NineMilesOff$Shelf")), Cond.fieldLink RX10 50 "NineMilesOff" "shelves" "[LNineMilesOff$Shelf;", Cond.fieldLink RX10 46 "NineMilesOff" "noShelf" "LNineMilesOff$Shelf;", Cond.methodLink RX10 388 yX9_isOfCells, Cond.static yX9_isOfCells, Cond.initialized RX9, Cond.code yX9_isOfCells cX9_isOfCells 2 (some .boolean), Cond.fieldLink RX9 21 "NineMilesOff$Shelf" "size" "I", Cond.methodLink RX9 27 yX5_numberAt, Cond.instanceMethod yX5_numberAt, Cond.selects RX5 yX5_numberAt yX5_numberAt, Cond.initialized RX5, Cond.code yX5_numberAt cX5_numberAt 2 (some .long), Cond.fieldLink RX5 24 "NineMilesOff$Shelf" "size" "I", Cond.fieldLink RX5 27 "NineMilesOff$Shelf" "numbers" "[J", Cond.static yX10_isCell, Cond.code yX10_isCell cX10_isCell 2 (some .boolean), Cond.constantLong RX10 383 (36), Cond.methodLink RX10 228 yX10_ofLongs, Cond.static yX10_ofLongs, Cond.code yX10_ofLongs cX10_ofLongs 1 (some .long), Cond.constantLong RX10 392 (1000000000)]
def wsX10_hisWay_r3 : List Cond := [Cond.methodLink RX10 162 yX0_lay, Cond.instanceMethod yX0_lay, Cond.selects RX0 yX0_lay yX0_lay, Cond.initialized RX0, Cond.code yX0_lay cX0_lay 5 none, Cond.fieldLink RX0 9 "NineMilesOff$Board" "heights" "[I", Cond.methodLink RX0 46 Lib.Math.abs.name, Cond.static Lib.Math.abs.name, Cond.initialized "java/lang/Math", Cond.code Lib.Math.abs.name Lib.Math.abs.code 1 (some .int), Cond.fieldLink RX0 15 "NineMilesOff$Board" "fars" "[I", Cond.fieldLink RX0 57 "NineMilesOff$Land" "nearest" "I", Cond.fieldLink RX0 61 "NineMilesOff$Land" "farthest" "I", Cond.methodLink RX0 40 yX3_heightAt, Cond.instanceMethod yX3_heightAt, Cond.selects RX3 yX3_heightAt yX3_heightAt, Cond.initialized RX3, Cond.code yX3_heightAt cX3_heightAt 2 (some .int), Cond.fieldLink RX3 9 "NineMilesOff$Land" "kinds" "[I", Cond.fieldLink RX3 15 "NineMilesOff$Land" "figures" "[I", Cond.methodLink RX3 49 yX2_heightOf, Cond.static yX2_heightOf, Cond.initialized RX2, Cond.code yX2_heightOf cX2_heightOf 2 (some .int)]
def wsX10_hisWay_r4 : List Cond := [Cond.methodLink RX0 51 yX7_apart, Cond.static yX7_apart, Cond.initialized RX7, Cond.code yX7_apart cX7_apart 2 (some .int), Cond.methodLink RX7 19 Lib.Math.abs.name, Cond.methodLink RX0 64 yX0_bound, Cond.instanceMethod yX0_bound, Cond.selects RX0 yX0_bound yX0_bound, Cond.code yX0_bound cX0_bound 8 none, Cond.fieldLink RX0 18 "NineMilesOff$Board" "near" "[J", Cond.methodLink RX0 68 yX3_openCells, Cond.instanceMethod yX3_openCells, Cond.selects RX3 yX3_openCells yX3_openCells, Cond.code yX3_openCells cX3_openCells 4 (some .long), Cond.methodLink RX3 60 yX3_isOpen, Cond.instanceMethod yX3_isOpen, Cond.selects RX3 yX3_isOpen yX3_isOpen, Cond.code yX3_isOpen cX3_isOpen 2 (some .boolean), Cond.fieldLink RX3 18 "NineMilesOff$Land" "winter" "I", Cond.methodLink RX3 53 yX2_isOpen, Cond.static yX2_isOpen, Cond.code yX2_isOpen cX2_isOpen 3 (some .boolean), Cond.methodLink RX3 63 yX7_bit, Cond.static yX7_bit]
def wsX10_hisWay_r5 : List Cond := [Cond.code yX7_bit cX7_bit 1 (some .long), Cond.methodLink RX0 72 yX0_admit, Cond.instanceMethod yX0_admit, Cond.selects RX0 yX0_admit yX0_admit, Cond.code yX0_admit cX0_admit 4 none, Cond.fieldLink RX0 22 "NineMilesOff$Board" "fit" "[J", Cond.methodLink RX0 76 yX7_has, Cond.static yX7_has, Cond.code yX7_has cX7_has 3 (some .boolean), Cond.methodLink RX7 11 yX7_bit, Cond.methodLink RX10 152 yX3_openCells, Cond.methodLink RX10 256 yX9_follow, Cond.instanceMethod yX9_follow, Cond.selects RX9 yX9_follow yX9_follow, Cond.code yX9_follow cX9_follow 8 (some .long), Cond.fieldLink RX9 9 "NineMilesOff$Track" "hers" "[J", Cond.methodLink RX9 49 yX7_spread, Cond.static yX7_spread, Cond.code yX7_spread cX7_spread 4 (some .long), Cond.constantLong RX7 29 (-1090785346), Cond.constantLong RX7 31 (-34905131041), Cond.constantLong RX7 33 (68719476735), Cond.methodLink RX9 61 yX9_fitOn, Cond.static yX9_fitOn]
def wsX10_hisWay_r6 : List Cond := [Cond.code yX9_fitOn cX9_fitOn 5 (some .long), Cond.methodLink RX9 56 yX0_nearOf, Cond.instanceMethod yX0_nearOf, Cond.selects RX0 yX0_nearOf yX0_nearOf, Cond.code yX0_nearOf cX0_nearOf 2 (some .long), Cond.methodLink RX10 184 yJ13_bitCount_95d88, Cond.static yJ13_bitCount_95d88, Cond.initialized RJ13, Cond.code yJ13_bitCount_95d88 cJ13_bitCount_95d88 2 (some .int), Cond.constantLong RJ13 314 (6148914691236517205), Cond.constantLong RJ13 316 (3689348814741910323), Cond.constantLong RJ13 318 (1085102592571150095)]
def wsX10_hisWay : List Cond := .code yX10_hisWay cX10_hisWay 6 (some .long) :: ((wsX10_hisWay_r1 ++ (wsX10_hisWay_r2 ++ (wsX10_hisWay_r3 ++ (wsX10_hisWay_r4 ++ (wsX10_hisWay_r5 ++ wsX10_hisWay_r6))))) ++ wsX100 ++ wsX50 ++ wsX00 ++ wsX30 ++ wsX90)
def wsX10_letter_r1 : List Cond := [Cond.fieldLink RX10 25 "NineMilesOff" "board" "LNineMilesOff$Board;", Cond.fieldLink RX10 12 "NineMilesOff" "now" "LNineMilesOff$Land;", Cond.fieldLink RX10 32 "NineMilesOff" "track" "LNineMilesOff$Track;", Cond.methodLink RX10 253 yX10_refusalOfTrack, Cond.instanceMethod yX10_refusalOfTrack, Cond.selects RX10 yX10_refusalOfTrack yX10_refusalOfTrack, Cond.initialized RX10, Cond.code yX10_refusalOfTrack cX10_refusalOfTrack 3 (some .int), Cond.methodLink RX10 54 yX10_refusalOfRow, Cond.instanceMethod yX10_refusalOfRow, Cond.selects RX10 yX10_refusalOfRow yX10_refusalOfRow, Cond.code yX10_refusalOfRow cX10_refusalOfRow 2 (some .int), Cond.methodLink RX10 385 yX10_refusalUnless, Cond.instanceMethod yX10_refusalUnless, Cond.selects RX10 yX10_refusalUnless yX10_refusalUnless, Cond.code yX10_refusalUnless cX10_refusalUnless 3 (some .int), Cond.fieldLink RX10 327 "NineMilesOff$Shelf" "holds" "I", Cond.methodLink RX10 296 yX10_isShelf, Cond.static yX10_isShelf, Cond.code yX10_isShelf cX10_isShelf 1 (some .boolean), Cond.methodLink RX10 58 yX10_shelfAt, Cond.instanceMethod yX10_shelfAt, Cond.selects RX10 yX10_shelfAt yX10_shelfAt, Cond.code yX10_shelfAt cX10_shelfAt 2 (some (.object "NineMilesOff$Shelf"))]
def wsX10_letter_r2 : List Cond := [Cond.fieldLink RX10 50 "NineMilesOff" "shelves" "[LNineMilesOff$Shelf;", Cond.fieldLink RX10 46 "NineMilesOff" "noShelf" "LNineMilesOff$Shelf;", Cond.methodLink RX10 388 yX9_isOfCells, Cond.static yX9_isOfCells, Cond.initialized RX9, Cond.code yX9_isOfCells cX9_isOfCells 2 (some .boolean), Cond.fieldLink RX9 21 "NineMilesOff$Shelf" "size" "I", Cond.methodLink RX9 27 yX5_numberAt, Cond.instanceMethod yX5_numberAt, Cond.selects RX5 yX5_numberAt yX5_numberAt, Cond.initialized RX5, Cond.code yX5_numberAt cX5_numberAt 2 (some .long), Cond.fieldLink RX5 24 "NineMilesOff$Shelf" "size" "I", Cond.fieldLink RX5 27 "NineMilesOff$Shelf" "numbers" "[J", Cond.static yX10_isCell, Cond.code yX10_isCell cX10_isCell 2 (some .boolean), Cond.constantLong RX10 383 (36), Cond.methodLink RX10 162 yX0_lay, Cond.instanceMethod yX0_lay, Cond.selects RX0 yX0_lay yX0_lay, Cond.initialized RX0, Cond.code yX0_lay cX0_lay 5 none, Cond.fieldLink RX0 9 "NineMilesOff$Board" "heights" "[I", Cond.methodLink RX0 46 Lib.Math.abs.name]
def wsX10_letter_r3 : List Cond := [Cond.static Lib.Math.abs.name, Cond.initialized "java/lang/Math", Cond.code Lib.Math.abs.name Lib.Math.abs.code 1 (some .int), Cond.fieldLink RX0 15 "NineMilesOff$Board" "fars" "[I", Cond.fieldLink RX0 57 "NineMilesOff$Land" "nearest" "I", Cond.fieldLink RX0 61 "NineMilesOff$Land" "farthest" "I", Cond.methodLink RX0 40 yX3_heightAt, Cond.instanceMethod yX3_heightAt, Cond.selects RX3 yX3_heightAt yX3_heightAt, Cond.initialized RX3, Cond.code yX3_heightAt cX3_heightAt 2 (some .int), Cond.fieldLink RX3 9 "NineMilesOff$Land" "kinds" "[I", Cond.fieldLink RX3 15 "NineMilesOff$Land" "figures" "[I", Cond.methodLink RX3 49 yX2_heightOf, Cond.static yX2_heightOf, Cond.initialized RX2, Cond.code yX2_heightOf cX2_heightOf 2 (some .int), Cond.methodLink RX0 51 yX7_apart, Cond.static yX7_apart, Cond.initialized RX7, Cond.code yX7_apart cX7_apart 2 (some .int), Cond.methodLink RX7 19 Lib.Math.abs.name, Cond.methodLink RX0 64 yX0_bound, Cond.instanceMethod yX0_bound]
def wsX10_letter_r4 : List Cond := [Cond.selects RX0 yX0_bound yX0_bound, Cond.code yX0_bound cX0_bound 8 none, Cond.fieldLink RX0 18 "NineMilesOff$Board" "near" "[J", Cond.methodLink RX0 68 yX3_openCells, Cond.instanceMethod yX3_openCells, Cond.selects RX3 yX3_openCells yX3_openCells, Cond.code yX3_openCells cX3_openCells 4 (some .long), Cond.methodLink RX3 60 yX3_isOpen, Cond.instanceMethod yX3_isOpen, Cond.selects RX3 yX3_isOpen yX3_isOpen, Cond.code yX3_isOpen cX3_isOpen 2 (some .boolean), Cond.fieldLink RX3 18 "NineMilesOff$Land" "winter" "I", Cond.methodLink RX3 53 yX2_isOpen, Cond.static yX2_isOpen, Cond.code yX2_isOpen cX2_isOpen 3 (some .boolean), Cond.methodLink RX3 63 yX7_bit, Cond.static yX7_bit, Cond.code yX7_bit cX7_bit 1 (some .long), Cond.methodLink RX0 72 yX0_admit, Cond.instanceMethod yX0_admit, Cond.selects RX0 yX0_admit yX0_admit, Cond.code yX0_admit cX0_admit 4 none, Cond.fieldLink RX0 22 "NineMilesOff$Board" "fit" "[J", Cond.methodLink RX0 76 yX7_has]
def wsX10_letter_r5 : List Cond := [Cond.static yX7_has, Cond.code yX7_has cX7_has 3 (some .boolean), Cond.methodLink RX7 11 yX7_bit, Cond.methodLink RX10 152 yX3_openCells, Cond.methodLink RX10 256 yX9_follow, Cond.instanceMethod yX9_follow, Cond.selects RX9 yX9_follow yX9_follow, Cond.code yX9_follow cX9_follow 8 (some .long), Cond.fieldLink RX9 9 "NineMilesOff$Track" "hers" "[J", Cond.methodLink RX9 49 yX7_spread, Cond.static yX7_spread, Cond.code yX7_spread cX7_spread 4 (some .long), Cond.constantLong RX7 29 (-1090785346), Cond.constantLong RX7 31 (-34905131041), Cond.constantLong RX7 33 (68719476735), Cond.methodLink RX9 61 yX9_fitOn, Cond.static yX9_fitOn, Cond.code yX9_fitOn cX9_fitOn 5 (some .long), Cond.methodLink RX9 56 yX0_nearOf, Cond.instanceMethod yX0_nearOf, Cond.selects RX0 yX0_nearOf yX0_nearOf, Cond.code yX0_nearOf cX0_nearOf 2 (some .long), Cond.methodLink RX10 260 yX9_bestDay, Cond.instanceMethod yX9_bestDay]
def wsX10_letter_r6 : List Cond := [Cond.selects RX9 yX9_bestDay yX9_bestDay, Cond.code yX9_bestDay cX9_bestDay 12 (some .int), Cond.methodLink RX9 65 Lib.Math.min.name, Cond.static Lib.Math.min.name, Cond.code Lib.Math.min.name Lib.Math.min.code 2 (some .int), Cond.fieldLink RX9 18 "NineMilesOff$Track" "leftThen" "[J", Cond.fieldLink RX9 15 "NineMilesOff$Track" "left" "[J", Cond.methodLink RX9 44 yX7_bit, Cond.methodLink RX9 71 yX9_leftAround, Cond.instanceMethod yX9_leftAround, Cond.selects RX9 yX9_leftAround yX9_leftAround, Cond.code yX9_leftAround cX9_leftAround 6 (some .long), Cond.methodLink RX9 82 yX7_cellTo, Cond.static yX7_cellTo, Cond.code yX7_cellTo cX7_cellTo 2 (some .int), Cond.methodLink RX9 74 yX7_has, Cond.methodLink RX9 78 yX9_worstOf, Cond.instanceMethod yX9_worstOf, Cond.selects RX9 yX9_worstOf yX9_worstOf, Cond.code yX9_worstOf cX9_worstOf 5 (some .int), Cond.methodLink RX9 90 Lib.Math.max.name, Cond.static Lib.Math.max.name, Cond.code Lib.Math.max.name Lib.Math.max.code 2 (some .int), Cond.methodLink RX9 85 yJ13_bitCount_95d88]
def wsX10_letter_r7 : List Cond := [Cond.static yJ13_bitCount_95d88, Cond.initialized RJ13, Cond.code yJ13_bitCount_95d88 cJ13_bitCount_95d88 2 (some .int), Cond.constantLong RJ13 314 (6148914691236517205), Cond.constantLong RJ13 316 (3689348814741910323), Cond.constantLong RJ13 318 (1085102592571150095)]
def wsX10_letter : List Cond := .code yX10_letter cX10_letter 5 (some .int) :: ((wsX10_letter_r1 ++ (wsX10_letter_r2 ++ (wsX10_letter_r3 ++ (wsX10_letter_r4 ++ (wsX10_letter_r5 ++ (wsX10_letter_r6 ++ wsX10_letter_r7)))))) ++ wsX100 ++ wsX50 ++ wsX00 ++ wsX30 ++ wsX90)
def wsX10_third_r1 : List Cond := [Cond.fieldLink RX10 12 "NineMilesOff" "now" "LNineMilesOff$Land;", Cond.fieldLink RX10 25 "NineMilesOff" "board" "LNineMilesOff$Board;", Cond.fieldLink RX10 119 "NineMilesOff$Land" "his" "I", Cond.fieldLink RX10 122 "NineMilesOff$Land" "hers" "I", Cond.methodLink RX10 116 yX10_isEither, Cond.static yX10_isEither, Cond.initialized RX10, Cond.code yX10_isEither cX10_isEither 1 (some .boolean), Cond.methodLink RX10 218 yX3_bothStand, Cond.instanceMethod yX3_bothStand, Cond.selects RX3 yX3_bothStand yX3_bothStand, Cond.initialized RX3, Cond.code yX3_bothStand cX3_bothStand 1 (some .boolean), Cond.fieldLink RX3 28 "NineMilesOff$Land" "his" "I", Cond.fieldLink RX3 31 "NineMilesOff$Land" "hers" "I", Cond.methodLink RX10 162 yX0_lay, Cond.instanceMethod yX0_lay, Cond.selects RX0 yX0_lay yX0_lay, Cond.initialized RX0, Cond.code yX0_lay cX0_lay 5 none, Cond.fieldLink RX0 9 "NineMilesOff$Board" "heights" "[I", Cond.methodLink RX0 46 Lib.Math.abs.name, Cond.static Lib.Math.abs.name, Cond.initialized "java/lang/Math"]
def wsX10_third_r2 : List Cond := [Cond.code Lib.Math.abs.name Lib.Math.abs.code 1 (some .int), Cond.fieldLink RX0 15 "NineMilesOff$Board" "fars" "[I", Cond.fieldLink RX0 57 "NineMilesOff$Land" "nearest" "I", Cond.fieldLink RX0 61 "NineMilesOff$Land" "farthest" "I", Cond.methodLink RX0 40 yX3_heightAt, Cond.instanceMethod yX3_heightAt, Cond.selects RX3 yX3_heightAt yX3_heightAt, Cond.code yX3_heightAt cX3_heightAt 2 (some .int), Cond.fieldLink RX3 9 "NineMilesOff$Land" "kinds" "[I", Cond.fieldLink RX3 15 "NineMilesOff$Land" "figures" "[I", Cond.static yX10_isCell, Cond.code yX10_isCell cX10_isCell 2 (some .boolean), Cond.constantLong RX10 383 (36), Cond.methodLink RX3 49 yX2_heightOf, Cond.static yX2_heightOf, Cond.initialized RX2, Cond.code yX2_heightOf cX2_heightOf 2 (some .int), Cond.methodLink RX0 51 yX7_apart, Cond.static yX7_apart, Cond.initialized RX7, Cond.code yX7_apart cX7_apart 2 (some .int), Cond.methodLink RX7 19 Lib.Math.abs.name, Cond.methodLink RX0 64 yX0_bound, Cond.instanceMethod yX0_bound]
def wsX10_third_r3 : List Cond := [Cond.selects RX0 yX0_bound yX0_bound, Cond.code yX0_bound cX0_bound 8 none, Cond.fieldLink RX0 18 "NineMilesOff$Board" "near" "[J", Cond.methodLink RX0 68 yX3_openCells, Cond.instanceMethod yX3_openCells, Cond.selects RX3 yX3_openCells yX3_openCells, Cond.code yX3_openCells cX3_openCells 4 (some .long), Cond.methodLink RX3 60 yX3_isOpen, Cond.instanceMethod yX3_isOpen, Cond.selects RX3 yX3_isOpen yX3_isOpen, Cond.code yX3_isOpen cX3_isOpen 2 (some .boolean), Cond.fieldLink RX3 18 "NineMilesOff$Land" "winter" "I", Cond.methodLink RX3 53 yX2_isOpen, Cond.static yX2_isOpen, Cond.code yX2_isOpen cX2_isOpen 3 (some .boolean), Cond.methodLink RX3 63 yX7_bit, Cond.static yX7_bit, Cond.code yX7_bit cX7_bit 1 (some .long), Cond.methodLink RX0 72 yX0_admit, Cond.instanceMethod yX0_admit, Cond.selects RX0 yX0_admit yX0_admit, Cond.code yX0_admit cX0_admit 4 none, Cond.fieldLink RX0 22 "NineMilesOff$Board" "fit" "[J", Cond.methodLink RX0 76 yX7_has]
def wsX10_third_r4 : List Cond := [Cond.static yX7_has, Cond.code yX7_has cX7_has 3 (some .boolean), Cond.methodLink RX7 11 yX7_bit, Cond.methodLink RX10 248 yX0_nearOf, Cond.instanceMethod yX0_nearOf, Cond.selects RX0 yX0_nearOf yX0_nearOf, Cond.code yX0_nearOf cX0_nearOf 2 (some .long), Cond.methodLink RX10 152 yX3_openCells, Cond.methodLink RX10 184 yJ13_bitCount_95d88, Cond.static yJ13_bitCount_95d88, Cond.initialized RJ13, Cond.code yJ13_bitCount_95d88 cJ13_bitCount_95d88 2 (some .int), Cond.constantLong RJ13 314 (6148914691236517205), Cond.constantLong RJ13 316 (3689348814741910323), Cond.constantLong RJ13 318 (1085102592571150095), Cond.methodLink RX10 264 yX7_leastOf, Cond.static yX7_leastOf, Cond.code yX7_leastOf cX7_leastOf 3 (some .int), Cond.methodLink RX7 15 yX7_has]
def wsX10_third : List Cond := .code yX10_third cX10_third 4 (some .int) :: ((wsX10_third_r1 ++ (wsX10_third_r2 ++ (wsX10_third_r3 ++ wsX10_third_r4))) ++ wsX100 ++ wsX30 ++ wsX00)
def wsX10_game_r1 : List Cond := [Cond.fieldLink RX10 12 "NineMilesOff" "now" "LNineMilesOff$Land;", Cond.fieldLink RX10 39 "NineMilesOff" "play" "LNineMilesOff$Play;", Cond.methodLink RX10 116 yX10_isEither, Cond.static yX10_isEither, Cond.initialized RX10, Cond.code yX10_isEither cX10_isEither 1 (some .boolean), Cond.methodLink RX10 218 yX3_bothStand, Cond.instanceMethod yX3_bothStand, Cond.selects RX3 yX3_bothStand yX3_bothStand, Cond.initialized RX3, Cond.code yX3_bothStand cX3_bothStand 1 (some .boolean), Cond.fieldLink RX3 28 "NineMilesOff$Land" "his" "I", Cond.fieldLink RX3 31 "NineMilesOff$Land" "hers" "I", Cond.methodLink RX10 267 yX4_lay, Cond.instanceMethod yX4_lay, Cond.selects RX4 yX4_lay yX4_lay, Cond.initialized RX4, Cond.code yX4_lay cX4_lay 7 none, Cond.fieldLink RX4 15 "NineMilesOff$Land" "his" "I", Cond.fieldLink RX4 25 "NineMilesOff$Land" "hers" "I", Cond.fieldLink RX4 9 "NineMilesOff$Play" "fars" "[I", Cond.methodLink RX4 21 yX3_cellBy, Cond.instanceMethod yX3_cellBy, Cond.selects RX3 yX3_cellBy yX3_cellBy]
def wsX10_game_r2 : List Cond := [Cond.code yX3_cellBy cX3_cellBy 4 (some .int), Cond.methodLink RX3 84 yX7_cellTo, Cond.static yX7_cellTo, Cond.initialized RX7, Cond.code yX7_cellTo cX7_cellTo 2 (some .int), Cond.static yX10_isCell, Cond.code yX10_isCell cX10_isCell 2 (some .boolean), Cond.constantLong RX10 383 (36), Cond.methodLink RX3 60 yX3_isOpen, Cond.instanceMethod yX3_isOpen, Cond.selects RX3 yX3_isOpen yX3_isOpen, Cond.code yX3_isOpen cX3_isOpen 2 (some .boolean), Cond.fieldLink RX3 9 "NineMilesOff$Land" "kinds" "[I", Cond.fieldLink RX3 15 "NineMilesOff$Land" "figures" "[I", Cond.fieldLink RX3 18 "NineMilesOff$Land" "winter" "I", Cond.methodLink RX3 53 yX2_isOpen, Cond.static yX2_isOpen, Cond.initialized RX2, Cond.code yX2_isOpen cX2_isOpen 3 (some .boolean), Cond.methodLink RX4 28 yX3_farBetween, Cond.instanceMethod yX3_farBetween, Cond.selects RX3 yX3_farBetween yX3_farBetween, Cond.code yX3_farBetween cX3_farBetween 3 (some .int), Cond.methodLink RX3 79 Lib.Math.abs.name]
def wsX10_game_r3 : List Cond := [Cond.static Lib.Math.abs.name, Cond.initialized "java/lang/Math", Cond.code Lib.Math.abs.name Lib.Math.abs.code 1 (some .int), Cond.methodLink RX3 73 yX7_apart, Cond.static yX7_apart, Cond.code yX7_apart cX7_apart 2 (some .int), Cond.methodLink RX7 19 Lib.Math.abs.name, Cond.methodLink RX3 76 yX3_heightAt, Cond.instanceMethod yX3_heightAt, Cond.selects RX3 yX3_heightAt yX3_heightAt, Cond.code yX3_heightAt cX3_heightAt 2 (some .int), Cond.methodLink RX3 49 yX2_heightOf, Cond.static yX2_heightOf, Cond.code yX2_heightOf cX2_heightOf 2 (some .int), Cond.methodLink RX10 268 yX4_firstHeld, Cond.instanceMethod yX4_firstHeld, Cond.selects RX4 yX4_firstHeld yX4_firstHeld, Cond.code yX4_firstHeld cX4_firstHeld 3 (some .int), Cond.methodLink RX4 35 yX4_farOf, Cond.instanceMethod yX4_farOf, Cond.selects RX4 yX4_farOf yX4_farOf, Cond.code yX4_farOf cX4_farOf 3 (some .int), Cond.static yX10_isWay, Cond.code yX10_isWay cX10_isWay 1 (some .boolean)]
def wsX10_game_r4 : List Cond := [Cond.methodLink RX4 38 yX4_isHeld, Cond.instanceMethod yX4_isHeld, Cond.selects RX4 yX4_isHeld yX4_isHeld, Cond.code yX4_isHeld cX4_isHeld 7 (some .boolean), Cond.methodLink RX10 271 yX4_leastSure, Cond.instanceMethod yX4_leastSure, Cond.selects RX4 yX4_leastSure yX4_leastSure, Cond.code yX4_leastSure cX4_leastSure 4 (some .int), Cond.methodLink RX4 42 yX4_worstOf, Cond.instanceMethod yX4_worstOf, Cond.selects RX4 yX4_worstOf yX4_worstOf, Cond.code yX4_worstOf cX4_worstOf 4 (some .int), Cond.methodLink RX4 46 Lib.Math.max.name, Cond.static Lib.Math.max.name, Cond.code Lib.Math.max.name Lib.Math.max.code 2 (some .int)]
def wsX10_game : List Cond := .code yX10_game cX10_game 2 (some .int) :: ((wsX10_game_r1 ++ (wsX10_game_r2 ++ (wsX10_game_r3 ++ wsX10_game_r4))) ++ wsX100 ++ wsX30 ++ wsX40)
def wsX10_snow_r1 : List Cond := [Cond.fieldLink RX10 12 "NineMilesOff" "now" "LNineMilesOff$Land;", Cond.constantLong RX10 281 (10), Cond.methodLink RX10 83 yX10_isCell, Cond.static yX10_isCell, Cond.initialized RX10, Cond.code yX10_isCell cX10_isCell 2 (some .boolean), Cond.constantLong RX10 383 (36), Cond.methodLink RX10 116 yX10_isEither, Cond.static yX10_isEither, Cond.code yX10_isEither cX10_isEither 1 (some .boolean), Cond.methodLink RX10 228 yX10_ofLongs, Cond.static yX10_ofLongs, Cond.code yX10_ofLongs cX10_ofLongs 1 (some .long), Cond.constantLong RX10 392 (1000000000), Cond.methodLink RX10 274 yX3_unsureCells, Cond.instanceMethod yX3_unsureCells, Cond.selects RX3 yX3_unsureCells yX3_unsureCells, Cond.initialized RX3, Cond.code yX3_unsureCells cX3_unsureCells 4 (some .long), Cond.methodLink RX3 69 yX3_chanceAt, Cond.instanceMethod yX3_chanceAt, Cond.selects RX3 yX3_chanceAt yX3_chanceAt, Cond.code yX3_chanceAt cX3_chanceAt 2 (some .int), Cond.fieldLink RX3 9 "NineMilesOff$Land" "kinds" "[I"]
def wsX10_snow_r2 : List Cond := [Cond.fieldLink RX3 15 "NineMilesOff$Land" "figures" "[I", Cond.methodLink RX3 57 yX2_chanceOf, Cond.static yX2_chanceOf, Cond.initialized RX2, Cond.code yX2_chanceOf cX2_chanceOf 2 (some .int), Cond.methodLink RX3 63 yX7_bit, Cond.static yX7_bit, Cond.initialized RX7, Cond.code yX7_bit cX7_bit 1 (some .long), Cond.methodLink RX10 184 yJ13_bitCount_95d88, Cond.static yJ13_bitCount_95d88, Cond.initialized RJ13, Cond.code yJ13_bitCount_95d88 cJ13_bitCount_95d88 2 (some .int), Cond.constantLong RJ13 314 (6148914691236517205), Cond.constantLong RJ13 316 (3689348814741910323), Cond.constantLong RJ13 318 (1085102592571150095), Cond.methodLink RX10 283 yX6_likely, Cond.static yX6_likely, Cond.initialized RX6, Cond.code yX6_likely cX6_likely 13 (some .long), Cond.methodLink RX6 26 Lib.Math.min.name, Cond.static Lib.Math.min.name, Cond.initialized "java/lang/Math", Cond.code Lib.Math.min.name Lib.Math.min.code 2 (some .int)]
def wsX10_snow_r3 : List Cond := [Cond.methodLink RX6 9 yX3_sureCells, Cond.instanceMethod yX3_sureCells, Cond.selects RX3 yX3_sureCells yX3_sureCells, Cond.code yX3_sureCells cX3_sureCells 4 (some .long), Cond.methodLink RX6 15 yX3_unsureCells, Cond.methodLink RX6 18 yJ13_bitCount_95d88, Cond.methodLink RX6 32 yX6_passableOf, Cond.static yX6_passableOf, Cond.code yX6_passableOf cX6_passableOf 7 (some .long), Cond.methodLink RX6 46 yX7_has, Cond.static yX7_has, Cond.code yX7_has cX7_has 3 (some .boolean), Cond.methodLink RX7 11 yX7_bit, Cond.methodLink RX6 50 yX7_bit, Cond.methodLink RX6 36 yX7_stepsBetween, Cond.static yX7_stepsBetween, Cond.code yX7_stepsBetween cX7_stepsBetween 7 (some .int), Cond.methodLink RX7 15 yX7_has, Cond.methodLink RX7 35 yX7_spread, Cond.static yX7_spread, Cond.code yX7_spread cX7_spread 4 (some .long), Cond.constantLong RX7 29 (-1090785346), Cond.constantLong RX7 31 (-34905131041), Cond.constantLong RX7 33 (68719476735)]
def wsX10_snow_r4 : List Cond := [Cond.methodLink RX6 42 yX6_weightOf, Cond.static yX6_weightOf, Cond.code yX6_weightOf cX6_weightOf 9 (some .long), Cond.methodLink RX6 54 yX3_chanceAt, Cond.methodLink RX10 287 yX1_partOf, Cond.static yX1_partOf, Cond.initialized RX1, Cond.code yX1_partOf cX1_partOf 7 (some .long), Cond.methodLink RX1 7 yX1_commonDivisor, Cond.static yX1_commonDivisor, Cond.code yX1_commonDivisor cX1_commonDivisor 11 (some .long)]
def wsX10_snow : List Cond := .code yX10_snow cX10_snow 8 (some .long) :: ((wsX10_snow_r1 ++ (wsX10_snow_r2 ++ (wsX10_snow_r3 ++ wsX10_snow_r4))) ++ wsX100 ++ wsX30)
def wsX10_mean_r1 : List Cond := [Cond.fieldLink RX10 25 "NineMilesOff" "board" "LNineMilesOff$Board;", Cond.fieldLink RX10 12 "NineMilesOff" "now" "LNineMilesOff$Land;", Cond.methodLink RX10 116 yX10_isEither, Cond.static yX10_isEither, Cond.initialized RX10, Cond.code yX10_isEither cX10_isEither 1 (some .boolean), Cond.methodLink RX10 228 yX10_ofLongs, Cond.static yX10_ofLongs, Cond.code yX10_ofLongs cX10_ofLongs 1 (some .long), Cond.constantLong RX10 392 (1000000000), Cond.methodLink RX10 162 yX0_lay, Cond.instanceMethod yX0_lay, Cond.selects RX0 yX0_lay yX0_lay, Cond.initialized RX0, Cond.code yX0_lay cX0_lay 5 none, Cond.fieldLink RX0 9 "NineMilesOff$Board" "heights" "[I", Cond.methodLink RX0 46 Lib.Math.abs.name, Cond.static Lib.Math.abs.name, Cond.initialized "java/lang/Math", Cond.code Lib.Math.abs.name Lib.Math.abs.code 1 (some .int), Cond.fieldLink RX0 15 "NineMilesOff$Board" "fars" "[I", Cond.fieldLink RX0 57 "NineMilesOff$Land" "nearest" "I", Cond.fieldLink RX0 61 "NineMilesOff$Land" "farthest" "I", Cond.methodLink RX0 40 yX3_heightAt]
def wsX10_mean_r2 : List Cond := [Cond.instanceMethod yX3_heightAt, Cond.selects RX3 yX3_heightAt yX3_heightAt, Cond.initialized RX3, Cond.code yX3_heightAt cX3_heightAt 2 (some .int), Cond.fieldLink RX3 9 "NineMilesOff$Land" "kinds" "[I", Cond.fieldLink RX3 15 "NineMilesOff$Land" "figures" "[I", Cond.static yX10_isCell, Cond.code yX10_isCell cX10_isCell 2 (some .boolean), Cond.constantLong RX10 383 (36), Cond.methodLink RX3 49 yX2_heightOf, Cond.static yX2_heightOf, Cond.initialized RX2, Cond.code yX2_heightOf cX2_heightOf 2 (some .int), Cond.methodLink RX0 51 yX7_apart, Cond.static yX7_apart, Cond.initialized RX7, Cond.code yX7_apart cX7_apart 2 (some .int), Cond.methodLink RX7 19 Lib.Math.abs.name, Cond.methodLink RX0 64 yX0_bound, Cond.instanceMethod yX0_bound, Cond.selects RX0 yX0_bound yX0_bound, Cond.code yX0_bound cX0_bound 8 none, Cond.fieldLink RX0 18 "NineMilesOff$Board" "near" "[J", Cond.methodLink RX0 68 yX3_openCells]
def wsX10_mean_r3 : List Cond := [Cond.instanceMethod yX3_openCells, Cond.selects RX3 yX3_openCells yX3_openCells, Cond.code yX3_openCells cX3_openCells 4 (some .long), Cond.methodLink RX3 60 yX3_isOpen, Cond.instanceMethod yX3_isOpen, Cond.selects RX3 yX3_isOpen yX3_isOpen, Cond.code yX3_isOpen cX3_isOpen 2 (some .boolean), Cond.fieldLink RX3 18 "NineMilesOff$Land" "winter" "I", Cond.methodLink RX3 53 yX2_isOpen, Cond.static yX2_isOpen, Cond.code yX2_isOpen cX2_isOpen 3 (some .boolean), Cond.methodLink RX3 63 yX7_bit, Cond.static yX7_bit, Cond.code yX7_bit cX7_bit 1 (some .long), Cond.methodLink RX0 72 yX0_admit, Cond.instanceMethod yX0_admit, Cond.selects RX0 yX0_admit yX0_admit, Cond.code yX0_admit cX0_admit 4 none, Cond.fieldLink RX0 22 "NineMilesOff$Board" "fit" "[J", Cond.methodLink RX0 76 yX7_has, Cond.static yX7_has, Cond.code yX7_has cX7_has 3 (some .boolean), Cond.methodLink RX7 11 yX7_bit, Cond.methodLink RX10 293 yX0_farsInAll]
def wsX10_mean_r4 : List Cond := [Cond.instanceMethod yX0_farsInAll, Cond.selects RX0 yX0_farsInAll yX0_farsInAll, Cond.code yX0_farsInAll cX0_farsInAll 5 (some .long), Cond.methodLink RX10 165 yX0_pairsInAll, Cond.instanceMethod yX0_pairsInAll, Cond.selects RX0 yX0_pairsInAll yX0_pairsInAll, Cond.code yX0_pairsInAll cX0_pairsInAll 1 (some .int), Cond.methodLink RX0 84 yX0_bitsOf, Cond.static yX0_bitsOf, Cond.code yX0_bitsOf cX0_bitsOf 3 (some .int), Cond.methodLink RX0 88 yJ13_bitCount_95d88, Cond.static yJ13_bitCount_95d88, Cond.initialized RJ13, Cond.code yJ13_bitCount_95d88 cJ13_bitCount_95d88 2 (some .int), Cond.constantLong RJ13 314 (6148914691236517205), Cond.constantLong RJ13 316 (3689348814741910323), Cond.constantLong RJ13 318 (1085102592571150095), Cond.methodLink RX10 287 yX1_partOf, Cond.static yX1_partOf, Cond.initialized RX1, Cond.code yX1_partOf cX1_partOf 7 (some .long), Cond.methodLink RX1 7 yX1_commonDivisor, Cond.static yX1_commonDivisor, Cond.code yX1_commonDivisor cX1_commonDivisor 11 (some .long)]
def wsX10_mean : List Cond := .code yX10_mean cX10_mean 2 (some .long) :: ((wsX10_mean_r1 ++ (wsX10_mean_r2 ++ (wsX10_mean_r3 ++ wsX10_mean_r4))) ++ wsX100 ++ wsX00 ++ wsX30)
def wsX10_curve_r1 : List Cond := [Cond.fieldLink RX10 25 "NineMilesOff" "board" "LNineMilesOff$Board;", Cond.fieldLink RX10 12 "NineMilesOff" "now" "LNineMilesOff$Land;", Cond.fieldLink RX10 132 "NineMilesOff$Land" "nearest" "I", Cond.methodLink RX10 129 yX10_isDistance, Cond.static yX10_isDistance, Cond.initialized RX10, Cond.code yX10_isDistance cX10_isDistance 1 (some .boolean), Cond.methodLink RX10 162 yX0_lay, Cond.instanceMethod yX0_lay, Cond.selects RX0 yX0_lay yX0_lay, Cond.initialized RX0, Cond.code yX0_lay cX0_lay 5 none, Cond.fieldLink RX0 9 "NineMilesOff$Board" "heights" "[I", Cond.methodLink RX0 46 Lib.Math.abs.name, Cond.static Lib.Math.abs.name, Cond.initialized "java/lang/Math", Cond.code Lib.Math.abs.name Lib.Math.abs.code 1 (some .int), Cond.fieldLink RX0 15 "NineMilesOff$Board" "fars" "[I", Cond.fieldLink RX0 57 "NineMilesOff$Land" "nearest" "I", Cond.fieldLink RX0 61 "NineMilesOff$Land" "farthest" "I", Cond.methodLink RX0 40 yX3_heightAt, Cond.instanceMethod yX3_heightAt, Cond.selects RX3 yX3_heightAt yX3_heightAt, Cond.initialized RX3]
def wsX10_curve_r2 : List Cond := [Cond.code yX3_heightAt cX3_heightAt 2 (some .int), Cond.fieldLink RX3 9 "NineMilesOff$Land" "kinds" "[I", Cond.fieldLink RX3 15 "NineMilesOff$Land" "figures" "[I", Cond.static yX10_isCell, Cond.code yX10_isCell cX10_isCell 2 (some .boolean), Cond.constantLong RX10 383 (36), Cond.methodLink RX3 49 yX2_heightOf, Cond.static yX2_heightOf, Cond.initialized RX2, Cond.code yX2_heightOf cX2_heightOf 2 (some .int), Cond.methodLink RX0 51 yX7_apart, Cond.static yX7_apart, Cond.initialized RX7, Cond.code yX7_apart cX7_apart 2 (some .int), Cond.methodLink RX7 19 Lib.Math.abs.name, Cond.methodLink RX0 64 yX0_bound, Cond.instanceMethod yX0_bound, Cond.selects RX0 yX0_bound yX0_bound, Cond.code yX0_bound cX0_bound 8 none, Cond.fieldLink RX0 18 "NineMilesOff$Board" "near" "[J", Cond.methodLink RX0 68 yX3_openCells, Cond.instanceMethod yX3_openCells, Cond.selects RX3 yX3_openCells yX3_openCells, Cond.code yX3_openCells cX3_openCells 4 (some .long)]
def wsX10_curve_r3 : List Cond := [Cond.methodLink RX3 60 yX3_isOpen, Cond.instanceMethod yX3_isOpen, Cond.selects RX3 yX3_isOpen yX3_isOpen, Cond.code yX3_isOpen cX3_isOpen 2 (some .boolean), Cond.fieldLink RX3 18 "NineMilesOff$Land" "winter" "I", Cond.methodLink RX3 53 yX2_isOpen, Cond.static yX2_isOpen, Cond.code yX2_isOpen cX2_isOpen 3 (some .boolean), Cond.methodLink RX3 63 yX7_bit, Cond.static yX7_bit, Cond.code yX7_bit cX7_bit 1 (some .long), Cond.methodLink RX0 72 yX0_admit, Cond.instanceMethod yX0_admit, Cond.selects RX0 yX0_admit yX0_admit, Cond.code yX0_admit cX0_admit 4 none, Cond.fieldLink RX0 22 "NineMilesOff$Board" "fit" "[J", Cond.methodLink RX0 76 yX7_has, Cond.static yX7_has, Cond.code yX7_has cX7_has 3 (some .boolean), Cond.methodLink RX7 11 yX7_bit, Cond.methodLink RX10 215 yX0_bound, Cond.methodLink RX10 152 yX3_openCells, Cond.methodLink RX10 211 yX0_admit, Cond.methodLink RX10 165 yX0_pairsInAll]
def wsX10_curve_r4 : List Cond := [Cond.instanceMethod yX0_pairsInAll, Cond.selects RX0 yX0_pairsInAll yX0_pairsInAll, Cond.code yX0_pairsInAll cX0_pairsInAll 1 (some .int), Cond.methodLink RX0 84 yX0_bitsOf, Cond.static yX0_bitsOf, Cond.code yX0_bitsOf cX0_bitsOf 3 (some .int), Cond.methodLink RX0 88 yJ13_bitCount_95d88, Cond.static yJ13_bitCount_95d88, Cond.initialized RJ13, Cond.code yJ13_bitCount_95d88 cJ13_bitCount_95d88 2 (some .int), Cond.constantLong RJ13 314 (6148914691236517205), Cond.constantLong RJ13 316 (3689348814741910323), Cond.constantLong RJ13 318 (1085102592571150095)]
def wsX10_curve : List Cond := .code yX10_curve cX10_curve 2 (some .int) :: ((wsX10_curve_r1 ++ (wsX10_curve_r2 ++ (wsX10_curve_r3 ++ wsX10_curve_r4))) ++ wsX100 ++ wsX30 ++ wsX00)
def wsX10_judge_r1 : List Cond := [Cond.fieldLink RX10 12 "NineMilesOff" "now" "LNineMilesOff$Land;", Cond.fieldLink RX10 119 "NineMilesOff$Land" "his" "I", Cond.methodLink RX10 296 yX10_isShelf, Cond.static yX10_isShelf, Cond.initialized RX10, Cond.code yX10_isShelf cX10_isShelf 1 (some .boolean), Cond.methodLink RX10 54 yX10_refusalOfRow, Cond.instanceMethod yX10_refusalOfRow, Cond.selects RX10 yX10_refusalOfRow yX10_refusalOfRow, Cond.code yX10_refusalOfRow cX10_refusalOfRow 2 (some .int), Cond.methodLink RX10 385 yX10_refusalUnless, Cond.instanceMethod yX10_refusalUnless, Cond.selects RX10 yX10_refusalUnless yX10_refusalUnless, Cond.code yX10_refusalUnless cX10_refusalUnless 3 (some .int), Cond.fieldLink RX10 327 "NineMilesOff$Shelf" "holds" "I", Cond.methodLink RX10 58 yX10_shelfAt, Cond.instanceMethod yX10_shelfAt, Cond.selects RX10 yX10_shelfAt yX10_shelfAt, Cond.code yX10_shelfAt cX10_shelfAt 2 (some (.object "NineMilesOff$Shelf")), Cond.fieldLink RX10 50 "NineMilesOff" "shelves" "[LNineMilesOff$Shelf;", Cond.fieldLink RX10 46 "NineMilesOff" "noShelf" "LNineMilesOff$Shelf;", Cond.methodLink RX10 299 yX9_firstWrongPlace, Cond.static yX9_firstWrongPlace, Cond.initialized RX9]
def wsX10_judge_r2 : List Cond := [Cond.code yX9_firstWrongPlace cX9_firstWrongPlace 11 (some .int), Cond.fieldLink RX9 41 "NineMilesOff$Land" "his" "I", Cond.fieldLink RX9 21 "NineMilesOff$Shelf" "size" "I", Cond.methodLink RX9 35 yX3_openCells, Cond.instanceMethod yX3_openCells, Cond.selects RX3 yX3_openCells yX3_openCells, Cond.initialized RX3, Cond.code yX3_openCells cX3_openCells 4 (some .long), Cond.methodLink RX3 60 yX3_isOpen, Cond.instanceMethod yX3_isOpen, Cond.selects RX3 yX3_isOpen yX3_isOpen, Cond.code yX3_isOpen cX3_isOpen 2 (some .boolean), Cond.fieldLink RX3 9 "NineMilesOff$Land" "kinds" "[I", Cond.fieldLink RX3 15 "NineMilesOff$Land" "figures" "[I", Cond.fieldLink RX3 18 "NineMilesOff$Land" "winter" "I", Cond.static yX10_isCell, Cond.code yX10_isCell cX10_isCell 2 (some .boolean), Cond.constantLong RX10 383 (36), Cond.methodLink RX3 53 yX2_isOpen, Cond.static yX2_isOpen, Cond.initialized RX2, Cond.code yX2_isOpen cX2_isOpen 3 (some .boolean), Cond.methodLink RX3 63 yX7_bit, Cond.static yX7_bit]
def wsX10_judge_r3 : List Cond := [Cond.initialized RX7, Cond.code yX7_bit cX7_bit 1 (some .long), Cond.methodLink RX9 44 yX7_bit, Cond.methodLink RX9 27 yX5_numberAt, Cond.instanceMethod yX5_numberAt, Cond.selects RX5 yX5_numberAt yX5_numberAt, Cond.initialized RX5, Cond.code yX5_numberAt cX5_numberAt 2 (some .long), Cond.fieldLink RX5 24 "NineMilesOff$Shelf" "size" "I", Cond.fieldLink RX5 27 "NineMilesOff$Shelf" "numbers" "[J", Cond.methodLink RX9 49 yX7_spread, Cond.static yX7_spread, Cond.code yX7_spread cX7_spread 4 (some .long), Cond.constantLong RX7 29 (-1090785346), Cond.constantLong RX7 31 (-34905131041), Cond.constantLong RX7 33 (68719476735), Cond.methodLink RX9 53 yX5_leastNumber, Cond.instanceMethod yX5_leastNumber, Cond.selects RX5 yX5_leastNumber yX5_leastNumber, Cond.code yX5_leastNumber cX5_leastNumber 1 (some .long), Cond.fieldLink RX5 21 "NineMilesOff$Shelf" "sort" "I", Cond.constantLong RX5 37 (-128), Cond.constantLong RX5 39 (-2147483648), Cond.constantLong RX5 41 (-9223372036854775808)]
def wsX10_judge : List Cond := .code yX10_judge cX10_judge 3 (some .int) :: ((wsX10_judge_r1 ++ (wsX10_judge_r2 ++ wsX10_judge_r3)) ++ wsX100 ++ wsX30 ++ wsX50)
def wsX10_nextSeed : List Cond := .code yX10_nextSeed cX10_nextSeed 1 (some .int) :: ([.constant RX10 394 (1103515245)])
def wsX10_drawOf : List Cond := .code yX10_drawOf cX10_drawOf 1 (some .int) :: ([.constant RX10 395 (2147483647), .constant RX10 396 (65536)])
def wsX10_seeds_r1 : List Cond := [Cond.fieldLink RX10 12 "NineMilesOff" "now" "LNineMilesOff$Land;", Cond.fieldLink RX10 19 "NineMilesOff" "trial" "LNineMilesOff$Land;", Cond.fieldLink RX10 302 "NineMilesOff$Land" "stopped" "I", Cond.fieldLink RX10 305 "NineMilesOff$Land" "pain" "I", Cond.fieldLink RX10 119 "NineMilesOff$Land" "his" "I", Cond.fieldLink RX10 122 "NineMilesOff$Land" "hers" "I", Cond.methodLink RX10 116 yX10_isEither, Cond.static yX10_isEither, Cond.initialized RX10, Cond.code yX10_isEither cX10_isEither 1 (some .boolean), Cond.methodLink RX10 218 yX3_bothStand, Cond.instanceMethod yX3_bothStand, Cond.selects RX3 yX3_bothStand yX3_bothStand, Cond.initialized RX3, Cond.code yX3_bothStand cX3_bothStand 1 (some .boolean), Cond.fieldLink RX3 28 "NineMilesOff$Land" "his" "I", Cond.fieldLink RX3 31 "NineMilesOff$Land" "hers" "I", Cond.methodLink RX10 72 yX3_becomes, Cond.instanceMethod yX3_becomes, Cond.selects RX3 yX3_becomes yX3_becomes, Cond.code yX3_becomes cX3_becomes 3 none, Cond.fieldLink RX3 9 "NineMilesOff$Land" "kinds" "[I", Cond.fieldLink RX3 15 "NineMilesOff$Land" "figures" "[I", Cond.fieldLink RX3 18 "NineMilesOff$Land" "winter" "I"]
def wsX10_seeds_r2 : List Cond := [Cond.fieldLink RX3 22 "NineMilesOff$Land" "nearest" "I", Cond.fieldLink RX3 25 "NineMilesOff$Land" "farthest" "I", Cond.fieldLink RX3 34 "NineMilesOff$Land" "day" "I", Cond.fieldLink RX3 37 "NineMilesOff$Land" "stopped" "I", Cond.fieldLink RX3 40 "NineMilesOff$Land" "pain" "I", Cond.methodLink RX10 308 yX10_nextSeed, Cond.static yX10_nextSeed, Cond.code yX10_nextSeed cX10_nextSeed 1 (some .int), Cond.constant RX10 394 (1103515245), Cond.methodLink RX10 311 yX10_drawOf, Cond.static yX10_drawOf, Cond.code yX10_drawOf cX10_drawOf 1 (some .int), Cond.constant RX10 395 (2147483647), Cond.constant RX10 396 (65536), Cond.methodLink RX10 314 yX3_cellByOrStay, Cond.instanceMethod yX3_cellByOrStay, Cond.selects RX3 yX3_cellByOrStay yX3_cellByOrStay, Cond.code yX3_cellByOrStay cX3_cellByOrStay 4 (some .int), Cond.methodLink RX3 87 yX3_cellBy, Cond.instanceMethod yX3_cellBy, Cond.selects RX3 yX3_cellBy yX3_cellBy, Cond.code yX3_cellBy cX3_cellBy 4 (some .int), Cond.methodLink RX3 84 yX7_cellTo, Cond.static yX7_cellTo]
def wsX10_seeds_r3 : List Cond := [Cond.initialized RX7, Cond.code yX7_cellTo cX7_cellTo 2 (some .int), Cond.static yX10_isCell, Cond.code yX10_isCell cX10_isCell 2 (some .boolean), Cond.constantLong RX10 383 (36), Cond.methodLink RX3 60 yX3_isOpen, Cond.instanceMethod yX3_isOpen, Cond.selects RX3 yX3_isOpen yX3_isOpen, Cond.code yX3_isOpen cX3_isOpen 2 (some .boolean), Cond.methodLink RX3 53 yX2_isOpen, Cond.static yX2_isOpen, Cond.initialized RX2, Cond.code yX2_isOpen cX2_isOpen 3 (some .boolean), Cond.methodLink RX10 317 yX3_endDay, Cond.instanceMethod yX3_endDay, Cond.selects RX3 yX3_endDay yX3_endDay, Cond.code yX3_endDay cX3_endDay 4 none, Cond.methodLink RX3 94 yX3_farBetween, Cond.instanceMethod yX3_farBetween, Cond.selects RX3 yX3_farBetween yX3_farBetween, Cond.code yX3_farBetween cX3_farBetween 3 (some .int), Cond.methodLink RX3 79 Lib.Math.abs.name, Cond.static Lib.Math.abs.name, Cond.initialized "java/lang/Math"]
def wsX10_seeds_r4 : List Cond := [Cond.code Lib.Math.abs.name Lib.Math.abs.code 1 (some .int), Cond.methodLink RX3 73 yX7_apart, Cond.static yX7_apart, Cond.code yX7_apart cX7_apart 2 (some .int), Cond.methodLink RX7 19 Lib.Math.abs.name, Cond.methodLink RX3 76 yX3_heightAt, Cond.instanceMethod yX3_heightAt, Cond.selects RX3 yX3_heightAt yX3_heightAt, Cond.code yX3_heightAt cX3_heightAt 2 (some .int), Cond.methodLink RX3 49 yX2_heightOf, Cond.static yX2_heightOf, Cond.code yX2_heightOf cX2_heightOf 2 (some .int)]
def wsX10_seeds : List Cond := .code yX10_seeds cX10_seeds 9 (some .int) :: ((wsX10_seeds_r1 ++ (wsX10_seeds_r2 ++ (wsX10_seeds_r3 ++ wsX10_seeds_r4))) ++ wsX100 ++ wsX30)
def wsX10_image : List Cond := .code yX10_image cX10_image 1 (some .int) :: ([.fieldLink RX10 16 "NineMilesOff" "kept" "LNineMilesOff$Land;", .fieldLink RX10 12 "NineMilesOff" "now" "LNineMilesOff$Land;", .fieldLink RX10 320 "NineMilesOff" "taken" "Z", .fieldLink RX10 324 "NineMilesOff$Land" "day" "I", .methodLink RX10 72 yX3_becomes, .instanceMethod yX3_becomes, .selects RX3 yX3_becomes yX3_becomes, .initialized RX3, .code yX3_becomes cX3_becomes 3 none, .fieldLink RX3 9 "NineMilesOff$Land" "kinds" "[I", .fieldLink RX3 15 "NineMilesOff$Land" "figures" "[I", .fieldLink RX3 18 "NineMilesOff$Land" "winter" "I", .fieldLink RX3 22 "NineMilesOff$Land" "nearest" "I", .fieldLink RX3 25 "NineMilesOff$Land" "farthest" "I", .fieldLink RX3 28 "NineMilesOff$Land" "his" "I", .fieldLink RX3 31 "NineMilesOff$Land" "hers" "I", .fieldLink RX3 34 "NineMilesOff$Land" "day" "I", .fieldLink RX3 37 "NineMilesOff$Land" "stopped" "I", .fieldLink RX3 40 "NineMilesOff$Land" "pain" "I"] ++ wsX100 ++ wsX30)
def wsX10_restore : List Cond := .code yX10_restore cX10_restore 1 (some .int) :: ([.fieldLink RX10 320 "NineMilesOff" "taken" "Z", .fieldLink RX10 12 "NineMilesOff" "now" "LNineMilesOff$Land;", .fieldLink RX10 16 "NineMilesOff" "kept" "LNineMilesOff$Land;", .fieldLink RX10 324 "NineMilesOff$Land" "day" "I", .methodLink RX10 72 yX3_becomes, .instanceMethod yX3_becomes, .selects RX3 yX3_becomes yX3_becomes, .initialized RX3, .code yX3_becomes cX3_becomes 3 none, .fieldLink RX3 9 "NineMilesOff$Land" "kinds" "[I", .fieldLink RX3 15 "NineMilesOff$Land" "figures" "[I", .fieldLink RX3 18 "NineMilesOff$Land" "winter" "I", .fieldLink RX3 22 "NineMilesOff$Land" "nearest" "I", .fieldLink RX3 25 "NineMilesOff$Land" "farthest" "I", .fieldLink RX3 28 "NineMilesOff$Land" "his" "I", .fieldLink RX3 31 "NineMilesOff$Land" "hers" "I", .fieldLink RX3 34 "NineMilesOff$Land" "day" "I", .fieldLink RX3 37 "NineMilesOff$Land" "stopped" "I", .fieldLink RX3 40 "NineMilesOff$Land" "pain" "I"] ++ wsX100 ++ wsX30)
def wsX10_count_r1 : List Cond := [Cond.fieldLink RX10 12 "NineMilesOff" "now" "LNineMilesOff$Land;", Cond.fieldLink RX10 119 "NineMilesOff$Land" "his" "I", Cond.fieldLink RX10 122 "NineMilesOff$Land" "hers" "I", Cond.fieldLink RX10 324 "NineMilesOff$Land" "day" "I", Cond.fieldLink RX10 302 "NineMilesOff$Land" "stopped" "I", Cond.fieldLink RX10 305 "NineMilesOff$Land" "pain" "I", Cond.fieldLink RX10 132 "NineMilesOff$Land" "nearest" "I", Cond.fieldLink RX10 135 "NineMilesOff$Land" "farthest" "I", Cond.fieldLink RX10 138 "NineMilesOff$Land" "winter" "I", Cond.methodLink RX10 152 yX3_openCells, Cond.instanceMethod yX3_openCells, Cond.selects RX3 yX3_openCells yX3_openCells, Cond.initialized RX3, Cond.code yX3_openCells cX3_openCells 4 (some .long), Cond.methodLink RX3 60 yX3_isOpen, Cond.instanceMethod yX3_isOpen, Cond.selects RX3 yX3_isOpen yX3_isOpen, Cond.code yX3_isOpen cX3_isOpen 2 (some .boolean), Cond.fieldLink RX3 9 "NineMilesOff$Land" "kinds" "[I", Cond.fieldLink RX3 15 "NineMilesOff$Land" "figures" "[I", Cond.fieldLink RX3 18 "NineMilesOff$Land" "winter" "I", Cond.static yX10_isCell, Cond.initialized RX10, Cond.code yX10_isCell cX10_isCell 2 (some .boolean)]
def wsX10_count_r2 : List Cond := [Cond.constantLong RX10 383 (36), Cond.methodLink RX3 53 yX2_isOpen, Cond.static yX2_isOpen, Cond.initialized RX2, Cond.code yX2_isOpen cX2_isOpen 3 (some .boolean), Cond.methodLink RX3 63 yX7_bit, Cond.static yX7_bit, Cond.initialized RX7, Cond.code yX7_bit cX7_bit 1 (some .long), Cond.methodLink RX10 184 yJ13_bitCount_95d88, Cond.static yJ13_bitCount_95d88, Cond.initialized RJ13, Cond.code yJ13_bitCount_95d88 cJ13_bitCount_95d88 2 (some .int), Cond.constantLong RJ13 314 (6148914691236517205), Cond.constantLong RJ13 316 (3689348814741910323), Cond.constantLong RJ13 318 (1085102592571150095)]
def wsX10_count : List Cond := .code yX10_count cX10_count 2 (some .int) :: ((wsX10_count_r1 ++ wsX10_count_r2) ++ wsX100 ++ wsX30)
def wsX10_keep_r1 : List Cond := [Cond.fieldLink RX10 327 "NineMilesOff$Shelf" "holds" "I", Cond.methodLink RX10 296 yX10_isShelf, Cond.static yX10_isShelf, Cond.initialized RX10, Cond.code yX10_isShelf cX10_isShelf 1 (some .boolean), Cond.methodLink RX10 116 yX10_isEither, Cond.static yX10_isEither, Cond.code yX10_isEither cX10_isEither 1 (some .boolean), Cond.methodLink RX10 58 yX10_shelfAt, Cond.instanceMethod yX10_shelfAt, Cond.selects RX10 yX10_shelfAt yX10_shelfAt, Cond.code yX10_shelfAt cX10_shelfAt 2 (some (.object "NineMilesOff$Shelf")), Cond.fieldLink RX10 50 "NineMilesOff" "shelves" "[LNineMilesOff$Shelf;", Cond.fieldLink RX10 46 "NineMilesOff" "noShelf" "LNineMilesOff$Shelf;", Cond.methodLink RX10 330 yX2_isKind, Cond.static yX2_isKind, Cond.initialized RX2, Cond.code yX2_isKind cX2_isKind 1 (some .boolean), Cond.methodLink RX10 333 yX5_takeGround, Cond.instanceMethod yX5_takeGround, Cond.selects RX5 yX5_takeGround yX5_takeGround, Cond.initialized RX5, Cond.code yX5_takeGround cX5_takeGround 3 none, Cond.fieldLink RX5 11 "NineMilesOff$Shelf" "holds" "I"]
def wsX10_keep_r2 : List Cond := [Cond.fieldLink RX5 15 "NineMilesOff$Shelf" "kind" "I", Cond.fieldLink RX5 18 "NineMilesOff$Shelf" "figure" "I"]
def wsX10_keep : List Cond := .code yX10_keep cX10_keep 5 (some .int) :: ((wsX10_keep_r1 ++ wsX10_keep_r2) ++ wsX50 ++ wsX100)
def wsX10_row : List Cond := .code yX10_row cX10_row 4 (some .int) :: ([.methodLink RX10 296 yX10_isShelf, .static yX10_isShelf, .initialized RX10, .code yX10_isShelf cX10_isShelf 1 (some .boolean), .methodLink RX10 58 yX10_shelfAt, .instanceMethod yX10_shelfAt, .selects RX10 yX10_shelfAt yX10_shelfAt, .code yX10_shelfAt cX10_shelfAt 2 (some (.object "NineMilesOff$Shelf")), .fieldLink RX10 50 "NineMilesOff" "shelves" "[LNineMilesOff$Shelf;", .fieldLink RX10 46 "NineMilesOff" "noShelf" "LNineMilesOff$Shelf;", .methodLink RX10 336 yX5_takeRow, .instanceMethod yX5_takeRow, .selects RX5 yX5_takeRow yX5_takeRow, .initialized RX5, .code yX5_takeRow cX5_takeRow 3 none, .fieldLink RX5 11 "NineMilesOff$Shelf" "holds" "I", .fieldLink RX5 21 "NineMilesOff$Shelf" "sort" "I", .fieldLink RX5 24 "NineMilesOff$Shelf" "size" "I", .fieldLink RX5 27 "NineMilesOff$Shelf" "numbers" "[J", .methodLink RX5 31 yJ7_fill_d0a16, .static yJ7_fill_d0a16, .initialized RJ7, .code yJ7_fill_d0a16 cJ7_fill_d0a16 5 none] ++ wsX100 ++ wsX50)
def wsX10_put_r1 : List Cond := [Cond.methodLink RX10 54 yX10_refusalOfRow, Cond.instanceMethod yX10_refusalOfRow, Cond.selects RX10 yX10_refusalOfRow yX10_refusalOfRow, Cond.initialized RX10, Cond.code yX10_refusalOfRow cX10_refusalOfRow 2 (some .int), Cond.methodLink RX10 385 yX10_refusalUnless, Cond.instanceMethod yX10_refusalUnless, Cond.selects RX10 yX10_refusalUnless yX10_refusalUnless, Cond.code yX10_refusalUnless cX10_refusalUnless 3 (some .int), Cond.fieldLink RX10 327 "NineMilesOff$Shelf" "holds" "I", Cond.methodLink RX10 296 yX10_isShelf, Cond.static yX10_isShelf, Cond.code yX10_isShelf cX10_isShelf 1 (some .boolean), Cond.methodLink RX10 58 yX10_shelfAt, Cond.instanceMethod yX10_shelfAt, Cond.selects RX10 yX10_shelfAt yX10_shelfAt, Cond.code yX10_shelfAt cX10_shelfAt 2 (some (.object "NineMilesOff$Shelf")), Cond.fieldLink RX10 50 "NineMilesOff" "shelves" "[LNineMilesOff$Shelf;", Cond.fieldLink RX10 46 "NineMilesOff" "noShelf" "LNineMilesOff$Shelf;", Cond.methodLink RX10 339 yX5_hasPlace, Cond.instanceMethod yX5_hasPlace, Cond.selects RX5 yX5_hasPlace yX5_hasPlace, Cond.initialized RX5, Cond.code yX5_hasPlace cX5_hasPlace 2 (some .boolean)]
def wsX10_put_r2 : List Cond := [Cond.fieldLink RX5 24 "NineMilesOff$Shelf" "size" "I", Cond.methodLink RX10 342 yX5_write, Cond.instanceMethod yX5_write, Cond.selects RX5 yX5_write yX5_write, Cond.code yX5_write cX5_write 3 none, Cond.fieldLink RX5 27 "NineMilesOff$Shelf" "numbers" "[J", Cond.fieldLink RX5 21 "NineMilesOff$Shelf" "sort" "I"]
def wsX10_put : List Cond := .code yX10_put cX10_put 5 (some .int) :: ((wsX10_put_r1 ++ wsX10_put_r2) ++ wsX50 ++ wsX100)
def wsX10_element_r1 : List Cond := [Cond.classLink RX10 345 "java/lang/IllegalArgumentException", Cond.initialized "java/lang/IllegalArgumentException", Cond.classLink RX10 352 "java/lang/IllegalStateException", Cond.initialized "java/lang/IllegalStateException", Cond.fieldLink RX10 327 "NineMilesOff$Shelf" "holds" "I", Cond.methodLink RX10 296 yX10_isShelf, Cond.static yX10_isShelf, Cond.initialized RX10, Cond.code yX10_isShelf cX10_isShelf 1 (some .boolean), Cond.methodLink RX10 58 yX10_shelfAt, Cond.instanceMethod yX10_shelfAt, Cond.selects RX10 yX10_shelfAt yX10_shelfAt, Cond.code yX10_shelfAt cX10_shelfAt 2 (some (.object "NineMilesOff$Shelf")), Cond.fieldLink RX10 50 "NineMilesOff" "shelves" "[LNineMilesOff$Shelf;", Cond.fieldLink RX10 46 "NineMilesOff" "noShelf" "LNineMilesOff$Shelf;", Cond.methodLink RX10 339 yX5_hasPlace, Cond.instanceMethod yX5_hasPlace, Cond.selects RX5 yX5_hasPlace yX5_hasPlace, Cond.initialized RX5, Cond.code yX5_hasPlace cX5_hasPlace 2 (some .boolean), Cond.fieldLink RX5 24 "NineMilesOff$Shelf" "size" "I", Cond.methodLink RX10 359 yX5_numberAt, Cond.instanceMethod yX5_numberAt, Cond.selects RX5 yX5_numberAt yX5_numberAt]
def wsX10_element_r2 : List Cond := [Cond.code yX5_numberAt cX5_numberAt 2 (some .long), Cond.fieldLink RX5 27 "NineMilesOff$Shelf" "numbers" "[J"]
def wsX10_element : List Cond := .code yX10_element cX10_element 3 (some .long) :: ((wsX10_element_r1 ++ wsX10_element_r2) ++ wsX50 ++ wsX100 ++ (vx_atS RX10 349 "java/lang/IllegalArgumentException" ["java/lang/RuntimeException", "java/lang/Exception"]).filter goodWord ++ (vx_atS RX10 356 "java/lang/IllegalStateException" ["java/lang/RuntimeException", "java/lang/Exception"]).filter goodWord)
def wsX10_copy : List Cond := .code yX10_copy cX10_copy 8 (some .int) :: ([.fieldLink RX10 327 "NineMilesOff$Shelf" "holds" "I", .fieldLink RX10 62 "NineMilesOff$Shelf" "sort" "I", .fieldLink RX10 365 "NineMilesOff$Shelf" "numbers" "[J", .methodLink RX10 369 arraycopyName, .native arraycopyName, .static arraycopyName, .initialized "java/lang/System", .methodLink RX10 296 yX10_isShelf, .static yX10_isShelf, .initialized RX10, .code yX10_isShelf cX10_isShelf 1 (some .boolean), .methodLink RX10 58 yX10_shelfAt, .instanceMethod yX10_shelfAt, .selects RX10 yX10_shelfAt yX10_shelfAt, .code yX10_shelfAt cX10_shelfAt 2 (some (.object "NineMilesOff$Shelf")), .fieldLink RX10 50 "NineMilesOff" "shelves" "[LNineMilesOff$Shelf;", .fieldLink RX10 46 "NineMilesOff" "noShelf" "LNineMilesOff$Shelf;", .methodLink RX10 362 yX5_hasPlaces, .instanceMethod yX5_hasPlaces, .selects RX5 yX5_hasPlaces yX5_hasPlaces, .initialized RX5, .code yX5_hasPlaces cX5_hasPlaces 3 (some .boolean), .fieldLink RX5 24 "NineMilesOff$Shelf" "size" "I"] ++ wsX50 ++ wsX100)
def wsX10_cost_r1 : List Cond := [Cond.fieldLink RX10 106 "NineMilesOff$Shelf" "kind" "I", Cond.fieldLink RX10 109 "NineMilesOff$Shelf" "figure" "I", Cond.methodLink RX10 103 yX10_refusalOfGround, Cond.instanceMethod yX10_refusalOfGround, Cond.selects RX10 yX10_refusalOfGround yX10_refusalOfGround, Cond.initialized RX10, Cond.code yX10_refusalOfGround cX10_refusalOfGround 2 (some .int), Cond.methodLink RX10 385 yX10_refusalUnless, Cond.instanceMethod yX10_refusalUnless, Cond.selects RX10 yX10_refusalUnless yX10_refusalUnless, Cond.code yX10_refusalUnless cX10_refusalUnless 3 (some .int), Cond.fieldLink RX10 327 "NineMilesOff$Shelf" "holds" "I", Cond.methodLink RX10 296 yX10_isShelf, Cond.static yX10_isShelf, Cond.code yX10_isShelf cX10_isShelf 1 (some .boolean), Cond.methodLink RX10 58 yX10_shelfAt, Cond.instanceMethod yX10_shelfAt, Cond.selects RX10 yX10_shelfAt yX10_shelfAt, Cond.code yX10_shelfAt cX10_shelfAt 2 (some (.object "NineMilesOff$Shelf")), Cond.fieldLink RX10 50 "NineMilesOff" "shelves" "[LNineMilesOff$Shelf;", Cond.fieldLink RX10 46 "NineMilesOff" "noShelf" "LNineMilesOff$Shelf;", Cond.methodLink RX10 375 yX2_costOf, Cond.static yX2_costOf, Cond.initialized RX2]
def wsX10_cost_r2 : List Cond := [Cond.code yX2_costOf cX2_costOf 2 (some .int), Cond.methodLink RX2 9 Lib.Math.max.name, Cond.static Lib.Math.max.name, Cond.initialized "java/lang/Math", Cond.code Lib.Math.max.name Lib.Math.max.code 2 (some .int)]
def wsX10_cost : List Cond := .code yX10_cost cX10_cost 3 (some .int) :: ((wsX10_cost_r1 ++ wsX10_cost_r2) ++ wsX50 ++ wsX100)
def wsX10_toss_r1 : List Cond := [Cond.classLink RX10 381 "java/lang/UnsupportedOperationException", Cond.classLink RX10 352 "java/lang/IllegalStateException", Cond.classLink RX10 345 "java/lang/IllegalArgumentException", Cond.fieldLink RX10 106 "NineMilesOff$Shelf" "kind" "I", Cond.fieldLink RX10 109 "NineMilesOff$Shelf" "figure" "I", Cond.methodLink RX10 103 yX10_refusalOfGround, Cond.instanceMethod yX10_refusalOfGround, Cond.selects RX10 yX10_refusalOfGround yX10_refusalOfGround, Cond.initialized RX10, Cond.code yX10_refusalOfGround cX10_refusalOfGround 2 (some .int), Cond.methodLink RX10 385 yX10_refusalUnless, Cond.instanceMethod yX10_refusalUnless, Cond.selects RX10 yX10_refusalUnless yX10_refusalUnless, Cond.code yX10_refusalUnless cX10_refusalUnless 3 (some .int), Cond.fieldLink RX10 327 "NineMilesOff$Shelf" "holds" "I", Cond.methodLink RX10 296 yX10_isShelf, Cond.static yX10_isShelf, Cond.code yX10_isShelf cX10_isShelf 1 (some .boolean), Cond.methodLink RX10 58 yX10_shelfAt, Cond.instanceMethod yX10_shelfAt, Cond.selects RX10 yX10_shelfAt yX10_shelfAt, Cond.code yX10_shelfAt cX10_shelfAt 2 (some (.object "NineMilesOff$Shelf")), Cond.fieldLink RX10 50 "NineMilesOff" "shelves" "[LNineMilesOff$Shelf;", Cond.fieldLink RX10 46 "NineMilesOff" "noShelf" "LNineMilesOff$Shelf;"]
def wsX10_toss_r2 : List Cond := [Cond.methodLink RX10 378 yX2_fail, Cond.static yX2_fail, Cond.initialized RX2, Cond.code yX2_fail cX2_fail 2 none, Cond.classLink RX2 15 "java/lang/UnsupportedOperationException", Cond.initialized "java/lang/UnsupportedOperationException", Cond.classLink RX2 22 "java/lang/IllegalStateException", Cond.initialized "java/lang/IllegalStateException", Cond.classLink RX2 29 "java/lang/IllegalArgumentException", Cond.initialized "java/lang/IllegalArgumentException", Cond.methodLink RX10 375 yX2_costOf, Cond.static yX2_costOf, Cond.code yX2_costOf cX2_costOf 2 (some .int), Cond.methodLink RX2 9 Lib.Math.max.name, Cond.static Lib.Math.max.name, Cond.initialized "java/lang/Math", Cond.code Lib.Math.max.name Lib.Math.max.code 2 (some .int)]
def wsX10_toss : List Cond := .codeWith yX10_toss cX10_toss 6 (some .int) [(31, 37, 40, 381), (31, 37, 53, 352), (31, 37, 61, 345)] :: ((wsX10_toss_r1 ++ wsX10_toss_r2) ++ wsX50 ++ wsX100 ++ (vx_atS RX2 19 "java/lang/UnsupportedOperationException" ["java/lang/RuntimeException", "java/lang/Exception"]).filter goodWord ++ (vx_atS RX2 26 "java/lang/IllegalStateException" ["java/lang/RuntimeException", "java/lang/Exception"]).filter goodWord ++ (vx_atS RX2 33 "java/lang/IllegalArgumentException" ["java/lang/RuntimeException", "java/lang/Exception"]).filter goodWord)
def wsX11_init_r1 : List Cond := [Cond.methodLink RX11 1 objectInit, Cond.instanceMethod objectInit, Cond.code objectInit ⟨#[0xb1]⟩ 1 none, Cond.arrayClass .int, Cond.fieldLink RX11 7 "NineMilesOffModel" "kinds" "[I", Cond.fieldLink RX11 13 "NineMilesOffModel" "figures" "[I", Cond.fieldLink RX11 16 "NineMilesOffModel" "nearest" "I", Cond.fieldLink RX11 20 "NineMilesOffModel" "farthest" "I", Cond.fieldLink RX11 23 "NineMilesOffModel" "his" "I", Cond.fieldLink RX11 26 "NineMilesOffModel" "hers" "I", Cond.fieldLink RX11 29 "NineMilesOffModel" "holdsWhat" "[I", Cond.fieldLink RX11 32 "NineMilesOffModel" "keptKind" "[I", Cond.fieldLink RX11 35 "NineMilesOffModel" "keptFigure" "[I", Cond.fieldLink RX11 38 "NineMilesOffModel" "rowSort" "[I", Cond.fieldLink RX11 41 "NineMilesOffModel" "rowMany" "[I", Cond.arrayClass .long, Cond.fieldLink RX11 44 "NineMilesOffModel" "rows" "[J", Cond.fieldLink RX11 48 "NineMilesOffModel" "thoughtOpen" "I", Cond.fieldLink RX11 51 "NineMilesOffModel" "placeIn" "[I", Cond.fieldLink RX11 54 "NineMilesOffModel" "letterOf" "[I", Cond.fieldLink RX11 57 "NineMilesOffModel" "told" "[I", Cond.fieldLink RX11 60 "NineMilesOffModel" "kept" "[I", Cond.fieldLink RX11 63 "NineMilesOffModel" "imaged" "[I", Cond.fieldLink RX11 66 "NineMilesOffModel" "steps" "[I"]
def wsX11_init_r2 : List Cond := [Cond.fieldLink RX11 69 "NineMilesOffModel" "days" "[I", Cond.fieldLink RX11 72 "NineMilesOffModel" "queue" "[I", Cond.fieldLink RX11 75 "NineMilesOffModel" "waysTo" "[J", Cond.fieldLink RX11 78 "NineMilesOffModel" "waysThen" "[J", Cond.fieldLink RX11 81 "NineMilesOffModel" "unsure" "[I", Cond.fieldLink RX11 84 "NineMilesOffModel" "between" "[J", Cond.fieldLink RX11 87 "NineMilesOffModel" "thrown" "I"]
def wsX11_init : List Cond := .code yX11_init cX11_init 1 none :: ((wsX11_init_r1 ++ wsX11_init_r2) ++ wsX110)
def wsX11_thrown : List Cond := .code yX11_thrown cX11_thrown 1 (some .int) :: ([.fieldLink RX11 87 "NineMilesOffModel" "thrown" "I"] ++ wsX110)
def wsX11_in : List Cond := .code yX11_in cX11_in 6 (some .boolean) :: ([])
def wsX11_isCell : List Cond := .code yX11_isCell cX11_isCell 2 (some .boolean) :: ([.constantLong RX11 90 (35), .methodLink RX11 92 yX11_in, .static yX11_in, .initialized RX11, .code yX11_in cX11_in 6 (some .boolean)])
def wsX11_plainly : List Cond := .code yX11_plainly cX11_plainly 1 (some .int) :: ([])
def wsX11_isOn : List Cond := .code yX11_isOn cX11_isOn 3 (some .boolean) :: ([])
def wsX11_onesOf : List Cond := .code yX11_onesOf cX11_onesOf 5 (some .int) :: ([])
def wsX11_heightOf : List Cond := .code yX11_heightOf cX11_heightOf 2 (some .int) :: ([.fieldLink RX11 7 "NineMilesOffModel" "kinds" "[I", .fieldLink RX11 13 "NineMilesOffModel" "figures" "[I"] ++ wsX110)
def wsX11_isOpen : List Cond := .code yX11_isOpen cX11_isOpen 2 (some .boolean) :: ([.fieldLink RX11 48 "NineMilesOffModel" "thoughtOpen" "I", .fieldLink RX11 7 "NineMilesOffModel" "kinds" "[I", .fieldLink RX11 96 "NineMilesOffModel" "winter" "I", .fieldLink RX11 13 "NineMilesOffModel" "figures" "[I"] ++ wsX110)
def wsX11_chanceOf : List Cond := .code yX11_chanceOf cX11_chanceOf 2 (some .int) :: ([.fieldLink RX11 7 "NineMilesOffModel" "kinds" "[I", .fieldLink RX11 13 "NineMilesOffModel" "figures" "[I"] ++ wsX110)
def wsX11_farOf : List Cond := .code yX11_farOf cX11_farOf 3 (some .int) :: ([.methodLink RX11 99 yX11_plainly, .static yX11_plainly, .initialized RX11, .code yX11_plainly cX11_plainly 1 (some .int), .methodLink RX11 103 yX11_heightOf, .instanceMethod yX11_heightOf, .selects RX11 yX11_heightOf yX11_heightOf, .code yX11_heightOf cX11_heightOf 2 (some .int), .fieldLink RX11 7 "NineMilesOffModel" "kinds" "[I", .fieldLink RX11 13 "NineMilesOffModel" "figures" "[I"] ++ wsX110)
def wsX11_isOff : List Cond := .code yX11_isOff cX11_isOff 3 (some .boolean) :: ([.fieldLink RX11 16 "NineMilesOffModel" "nearest" "I", .fieldLink RX11 20 "NineMilesOffModel" "farthest" "I", .methodLink RX11 106 yX11_farOf, .instanceMethod yX11_farOf, .selects RX11 yX11_farOf yX11_farOf, .initialized RX11, .code yX11_farOf cX11_farOf 3 (some .int), .methodLink RX11 99 yX11_plainly, .static yX11_plainly, .code yX11_plainly cX11_plainly 1 (some .int), .methodLink RX11 103 yX11_heightOf, .instanceMethod yX11_heightOf, .selects RX11 yX11_heightOf yX11_heightOf, .code yX11_heightOf cX11_heightOf 2 (some .int), .fieldLink RX11 7 "NineMilesOffModel" "kinds" "[I", .fieldLink RX11 13 "NineMilesOffModel" "figures" "[I"] ++ wsX110)
def wsX11_beside : List Cond := .code yX11_beside cX11_beside 2 (some .int) :: ([])
def wsX11_goneTo : List Cond := .code yX11_goneTo cX11_goneTo 4 (some .int) :: ([.methodLink RX11 110 yX11_beside, .static yX11_beside, .initialized RX11, .code yX11_beside cX11_beside 2 (some .int), .methodLink RX11 113 yX11_isOpen, .instanceMethod yX11_isOpen, .selects RX11 yX11_isOpen yX11_isOpen, .code yX11_isOpen cX11_isOpen 2 (some .boolean), .fieldLink RX11 48 "NineMilesOffModel" "thoughtOpen" "I", .fieldLink RX11 7 "NineMilesOffModel" "kinds" "[I", .fieldLink RX11 96 "NineMilesOffModel" "winter" "I", .fieldLink RX11 13 "NineMilesOffModel" "figures" "[I"] ++ wsX110)
def wsX11_openCells : List Cond := .code yX11_openCells cX11_openCells 4 (some .long) :: ([.methodLink RX11 113 yX11_isOpen, .instanceMethod yX11_isOpen, .selects RX11 yX11_isOpen yX11_isOpen, .initialized RX11, .code yX11_isOpen cX11_isOpen 2 (some .boolean), .fieldLink RX11 48 "NineMilesOffModel" "thoughtOpen" "I", .fieldLink RX11 7 "NineMilesOffModel" "kinds" "[I", .fieldLink RX11 96 "NineMilesOffModel" "winter" "I", .fieldLink RX11 13 "NineMilesOffModel" "figures" "[I"] ++ wsX110)
def wsX11_goOn : List Cond := .code yX11_goOn cX11_goOn 8 (some .long) :: ([.methodLink RX11 117 yX11_isOn, .static yX11_isOn, .initialized RX11, .code yX11_isOn cX11_isOn 3 (some .boolean), .methodLink RX11 121 yX11_goneTo, .instanceMethod yX11_goneTo, .selects RX11 yX11_goneTo yX11_goneTo, .code yX11_goneTo cX11_goneTo 4 (some .int), .methodLink RX11 110 yX11_beside, .static yX11_beside, .code yX11_beside cX11_beside 2 (some .int), .methodLink RX11 113 yX11_isOpen, .instanceMethod yX11_isOpen, .selects RX11 yX11_isOpen yX11_isOpen, .code yX11_isOpen cX11_isOpen 2 (some .boolean), .fieldLink RX11 48 "NineMilesOffModel" "thoughtOpen" "I", .fieldLink RX11 7 "NineMilesOffModel" "kinds" "[I", .fieldLink RX11 96 "NineMilesOffModel" "winter" "I", .fieldLink RX11 13 "NineMilesOffModel" "figures" "[I"] ++ wsX110)
def wsX11_here : List Cond := .code yX11_here cX11_here 1 (some .int) :: ([.fieldLink RX11 124 "NineMilesOffModel" "at" "I", .fieldLink RX11 41 "NineMilesOffModel" "rowMany" "[I", .fieldLink RX11 127 "NineMilesOffModel" "reading" "I", .fieldLink RX11 44 "NineMilesOffModel" "rows" "[J"] ++ wsX110)
def wsX11_readDigits : List Cond := .code yX11_readDigits cX11_readDigits 4 (some .int) :: ([.fieldLink RX11 130 "NineMilesOffModel" "isBad" "Z", .constantLong RX11 138 (48), .constantLong RX11 140 (57), .fieldLink RX11 124 "NineMilesOffModel" "at" "I", .methodLink RX11 134 yX11_here, .instanceMethod yX11_here, .selects RX11 yX11_here yX11_here, .initialized RX11, .code yX11_here cX11_here 1 (some .int), .fieldLink RX11 41 "NineMilesOffModel" "rowMany" "[I", .fieldLink RX11 127 "NineMilesOffModel" "reading" "I", .fieldLink RX11 44 "NineMilesOffModel" "rows" "[J", .methodLink RX11 92 yX11_in, .static yX11_in, .code yX11_in cX11_in 6 (some .boolean)] ++ wsX110)
def wsX11_isLetter : List Cond := .code yX11_isLetter cX11_isLetter 1 (some .boolean) :: ([])
def wsX11_readStatement_r1 : List Cond := [Cond.fieldLink RX11 142 "NineMilesOffModel" "statements" "I", Cond.fieldLink RX11 51 "NineMilesOffModel" "placeIn" "[I", Cond.fieldLink RX11 124 "NineMilesOffModel" "at" "I", Cond.fieldLink RX11 54 "NineMilesOffModel" "letterOf" "[I", Cond.fieldLink RX11 130 "NineMilesOffModel" "isBad" "Z", Cond.fieldLink RX11 57 "NineMilesOffModel" "told" "[I", Cond.methodLink RX11 134 yX11_here, Cond.instanceMethod yX11_here, Cond.selects RX11 yX11_here yX11_here, Cond.initialized RX11, Cond.code yX11_here cX11_here 1 (some .int), Cond.fieldLink RX11 41 "NineMilesOffModel" "rowMany" "[I", Cond.fieldLink RX11 127 "NineMilesOffModel" "reading" "I", Cond.fieldLink RX11 44 "NineMilesOffModel" "rows" "[J", Cond.methodLink RX11 145 yX11_isLetter, Cond.static yX11_isLetter, Cond.code yX11_isLetter cX11_isLetter 1 (some .boolean), Cond.methodLink RX11 148 yX11_readDigits, Cond.instanceMethod yX11_readDigits, Cond.selects RX11 yX11_readDigits yX11_readDigits, Cond.code yX11_readDigits cX11_readDigits 4 (some .int), Cond.constantLong RX11 138 (48), Cond.constantLong RX11 140 (57), Cond.methodLink RX11 92 yX11_in]
def wsX11_readStatement_r2 : List Cond := [Cond.static yX11_in, Cond.code yX11_in cX11_in 6 (some .boolean)]
def wsX11_readStatement : List Cond := .code yX11_readStatement cX11_readStatement 4 none :: ((wsX11_readStatement_r1 ++ wsX11_readStatement_r2) ++ wsX110)
def wsX11_canGo : List Cond := .code yX11_canGo cX11_canGo 3 (some .boolean) :: ([.fieldLink RX11 23 "NineMilesOffModel" "his" "I", .fieldLink RX11 26 "NineMilesOffModel" "hers" "I", .fieldLink RX11 151 "NineMilesOffModel" "day" "I", .methodLink RX11 121 yX11_goneTo, .instanceMethod yX11_goneTo, .selects RX11 yX11_goneTo yX11_goneTo, .initialized RX11, .code yX11_goneTo cX11_goneTo 4 (some .int), .methodLink RX11 110 yX11_beside, .static yX11_beside, .code yX11_beside cX11_beside 2 (some .int), .methodLink RX11 113 yX11_isOpen, .instanceMethod yX11_isOpen, .selects RX11 yX11_isOpen yX11_isOpen, .code yX11_isOpen cX11_isOpen 2 (some .boolean), .fieldLink RX11 48 "NineMilesOffModel" "thoughtOpen" "I", .fieldLink RX11 7 "NineMilesOffModel" "kinds" "[I", .fieldLink RX11 96 "NineMilesOffModel" "winter" "I", .fieldLink RX11 13 "NineMilesOffModel" "figures" "[I"] ++ wsX110)
def wsX11_goBoth_r1 : List Cond := [Cond.fieldLink RX11 23 "NineMilesOffModel" "his" "I", Cond.fieldLink RX11 26 "NineMilesOffModel" "hers" "I", Cond.fieldLink RX11 154 "NineMilesOffModel" "stopped" "I", Cond.fieldLink RX11 16 "NineMilesOffModel" "nearest" "I", Cond.fieldLink RX11 157 "NineMilesOffModel" "pain" "I", Cond.fieldLink RX11 20 "NineMilesOffModel" "farthest" "I", Cond.fieldLink RX11 151 "NineMilesOffModel" "day" "I", Cond.methodLink RX11 121 yX11_goneTo, Cond.instanceMethod yX11_goneTo, Cond.selects RX11 yX11_goneTo yX11_goneTo, Cond.initialized RX11, Cond.code yX11_goneTo cX11_goneTo 4 (some .int), Cond.methodLink RX11 110 yX11_beside, Cond.static yX11_beside, Cond.code yX11_beside cX11_beside 2 (some .int), Cond.methodLink RX11 113 yX11_isOpen, Cond.instanceMethod yX11_isOpen, Cond.selects RX11 yX11_isOpen yX11_isOpen, Cond.code yX11_isOpen cX11_isOpen 2 (some .boolean), Cond.fieldLink RX11 48 "NineMilesOffModel" "thoughtOpen" "I", Cond.fieldLink RX11 7 "NineMilesOffModel" "kinds" "[I", Cond.fieldLink RX11 96 "NineMilesOffModel" "winter" "I", Cond.fieldLink RX11 13 "NineMilesOffModel" "figures" "[I", Cond.methodLink RX11 106 yX11_farOf]
def wsX11_goBoth_r2 : List Cond := [Cond.instanceMethod yX11_farOf, Cond.selects RX11 yX11_farOf yX11_farOf, Cond.code yX11_farOf cX11_farOf 3 (some .int), Cond.methodLink RX11 99 yX11_plainly, Cond.static yX11_plainly, Cond.code yX11_plainly cX11_plainly 1 (some .int), Cond.methodLink RX11 103 yX11_heightOf, Cond.instanceMethod yX11_heightOf, Cond.selects RX11 yX11_heightOf yX11_heightOf, Cond.code yX11_heightOf cX11_heightOf 2 (some .int)]
def wsX11_goBoth : List Cond := .code yX11_goBoth cX11_goBoth 4 none :: ((wsX11_goBoth_r1 ++ wsX11_goBoth_r2) ++ wsX110)
def wsX11_comes_r1 : List Cond := [Cond.fieldLink RX11 57 "NineMilesOffModel" "told" "[I", Cond.fieldLink RX11 54 "NineMilesOffModel" "letterOf" "[I", Cond.fieldLink RX11 7 "NineMilesOffModel" "kinds" "[I", Cond.fieldLink RX11 13 "NineMilesOffModel" "figures" "[I", Cond.fieldLink RX11 16 "NineMilesOffModel" "nearest" "I", Cond.fieldLink RX11 20 "NineMilesOffModel" "farthest" "I", Cond.fieldLink RX11 96 "NineMilesOffModel" "winter" "I", Cond.fieldLink RX11 23 "NineMilesOffModel" "his" "I", Cond.fieldLink RX11 26 "NineMilesOffModel" "hers" "I", Cond.methodLink RX11 160 yX11_canGo, Cond.instanceMethod yX11_canGo, Cond.selects RX11 yX11_canGo yX11_canGo, Cond.initialized RX11, Cond.code yX11_canGo cX11_canGo 3 (some .boolean), Cond.fieldLink RX11 151 "NineMilesOffModel" "day" "I", Cond.methodLink RX11 121 yX11_goneTo, Cond.instanceMethod yX11_goneTo, Cond.selects RX11 yX11_goneTo yX11_goneTo, Cond.code yX11_goneTo cX11_goneTo 4 (some .int), Cond.methodLink RX11 110 yX11_beside, Cond.static yX11_beside, Cond.code yX11_beside cX11_beside 2 (some .int), Cond.methodLink RX11 113 yX11_isOpen, Cond.instanceMethod yX11_isOpen]
def wsX11_comes_r2 : List Cond := [Cond.selects RX11 yX11_isOpen yX11_isOpen, Cond.code yX11_isOpen cX11_isOpen 2 (some .boolean), Cond.fieldLink RX11 48 "NineMilesOffModel" "thoughtOpen" "I", Cond.methodLink RX11 164 yX11_goBoth, Cond.instanceMethod yX11_goBoth, Cond.selects RX11 yX11_goBoth yX11_goBoth, Cond.code yX11_goBoth cX11_goBoth 4 none, Cond.fieldLink RX11 154 "NineMilesOffModel" "stopped" "I", Cond.fieldLink RX11 157 "NineMilesOffModel" "pain" "I", Cond.methodLink RX11 106 yX11_farOf, Cond.instanceMethod yX11_farOf, Cond.selects RX11 yX11_farOf yX11_farOf, Cond.code yX11_farOf cX11_farOf 3 (some .int), Cond.methodLink RX11 99 yX11_plainly, Cond.static yX11_plainly, Cond.code yX11_plainly cX11_plainly 1 (some .int), Cond.methodLink RX11 103 yX11_heightOf, Cond.instanceMethod yX11_heightOf, Cond.selects RX11 yX11_heightOf yX11_heightOf, Cond.code yX11_heightOf cX11_heightOf 2 (some .int)]
def wsX11_comes : List Cond := .code yX11_comes cX11_comes 5 (some .boolean) :: ((wsX11_comes_r1 ++ wsX11_comes_r2) ++ wsX110)
def wsX11_wrongRow : List Cond := .code yX11_wrongRow cX11_wrongRow 2 (some .int) :: ([.constantLong RX11 203 (7), .fieldLink RX11 29 "NineMilesOffModel" "holdsWhat" "[I", .methodLink RX11 92 yX11_in, .static yX11_in, .initialized RX11, .code yX11_in cX11_in 6 (some .boolean)] ++ wsX110)
def wsX11_carry : List Cond := .code yX11_carry cX11_carry 2 (some .int) :: ([.fieldLink RX11 181 "NineMilesOffModel" "isTaking" "Z", .fieldLink RX11 184 "NineMilesOffModel" "keptIn" "[I", .fieldLink RX11 187 "NineMilesOffModel" "place0" "I"] ++ wsX110)
def wsX11_carryAll : List Cond := .code yX11_carryAll cX11_carryAll 4 none :: ([.fieldLink RX11 184 "NineMilesOffModel" "keptIn" "[I", .fieldLink RX11 181 "NineMilesOffModel" "isTaking" "Z", .fieldLink RX11 187 "NineMilesOffModel" "place0" "I", .fieldLink RX11 96 "NineMilesOffModel" "winter" "I", .fieldLink RX11 16 "NineMilesOffModel" "nearest" "I", .fieldLink RX11 20 "NineMilesOffModel" "farthest" "I", .fieldLink RX11 23 "NineMilesOffModel" "his" "I", .fieldLink RX11 26 "NineMilesOffModel" "hers" "I", .fieldLink RX11 151 "NineMilesOffModel" "day" "I", .fieldLink RX11 154 "NineMilesOffModel" "stopped" "I", .fieldLink RX11 157 "NineMilesOffModel" "pain" "I", .fieldLink RX11 7 "NineMilesOffModel" "kinds" "[I", .fieldLink RX11 13 "NineMilesOffModel" "figures" "[I", .methodLink RX11 190 yX11_carry, .instanceMethod yX11_carry, .selects RX11 yX11_carry yX11_carry, .initialized RX11, .code yX11_carry cX11_carry 2 (some .int)] ++ wsX110)
def wsX11_land_r1 : List Cond := [Cond.fieldLink RX11 87 "NineMilesOffModel" "thrown" "I", Cond.fieldLink RX11 38 "NineMilesOffModel" "rowSort" "[I", Cond.fieldLink RX11 127 "NineMilesOffModel" "reading" "I", Cond.fieldLink RX11 124 "NineMilesOffModel" "at" "I", Cond.fieldLink RX11 130 "NineMilesOffModel" "isBad" "Z", Cond.fieldLink RX11 142 "NineMilesOffModel" "statements" "I", Cond.fieldLink RX11 41 "NineMilesOffModel" "rowMany" "[I", Cond.fieldLink RX11 60 "NineMilesOffModel" "kept" "[I", Cond.fieldLink RX11 51 "NineMilesOffModel" "placeIn" "[I", Cond.methodLink RX11 168 yX11_wrongRow, Cond.instanceMethod yX11_wrongRow, Cond.selects RX11 yX11_wrongRow yX11_wrongRow, Cond.initialized RX11, Cond.code yX11_wrongRow cX11_wrongRow 2 (some .int), Cond.constantLong RX11 203 (7), Cond.fieldLink RX11 29 "NineMilesOffModel" "holdsWhat" "[I", Cond.methodLink RX11 92 yX11_in, Cond.static yX11_in, Cond.code yX11_in cX11_in 6 (some .boolean), Cond.methodLink RX11 171 yX11_readStatement, Cond.instanceMethod yX11_readStatement, Cond.selects RX11 yX11_readStatement yX11_readStatement, Cond.code yX11_readStatement cX11_readStatement 4 none, Cond.fieldLink RX11 54 "NineMilesOffModel" "letterOf" "[I"]
def wsX11_land_r2 : List Cond := [Cond.fieldLink RX11 57 "NineMilesOffModel" "told" "[I", Cond.methodLink RX11 134 yX11_here, Cond.instanceMethod yX11_here, Cond.selects RX11 yX11_here yX11_here, Cond.code yX11_here cX11_here 1 (some .int), Cond.fieldLink RX11 44 "NineMilesOffModel" "rows" "[J", Cond.methodLink RX11 145 yX11_isLetter, Cond.static yX11_isLetter, Cond.code yX11_isLetter cX11_isLetter 1 (some .boolean), Cond.methodLink RX11 148 yX11_readDigits, Cond.instanceMethod yX11_readDigits, Cond.selects RX11 yX11_readDigits yX11_readDigits, Cond.code yX11_readDigits cX11_readDigits 4 (some .int), Cond.constantLong RX11 138 (48), Cond.constantLong RX11 140 (57), Cond.methodLink RX11 174 yX11_carryAll, Cond.instanceMethod yX11_carryAll, Cond.selects RX11 yX11_carryAll yX11_carryAll, Cond.code yX11_carryAll cX11_carryAll 4 none, Cond.fieldLink RX11 184 "NineMilesOffModel" "keptIn" "[I", Cond.fieldLink RX11 181 "NineMilesOffModel" "isTaking" "Z", Cond.fieldLink RX11 187 "NineMilesOffModel" "place0" "I", Cond.fieldLink RX11 96 "NineMilesOffModel" "winter" "I", Cond.fieldLink RX11 16 "NineMilesOffModel" "nearest" "I"]
def wsX11_land_r3 : List Cond := [Cond.fieldLink RX11 20 "NineMilesOffModel" "farthest" "I", Cond.fieldLink RX11 23 "NineMilesOffModel" "his" "I", Cond.fieldLink RX11 26 "NineMilesOffModel" "hers" "I", Cond.fieldLink RX11 151 "NineMilesOffModel" "day" "I", Cond.fieldLink RX11 154 "NineMilesOffModel" "stopped" "I", Cond.fieldLink RX11 157 "NineMilesOffModel" "pain" "I", Cond.fieldLink RX11 7 "NineMilesOffModel" "kinds" "[I", Cond.fieldLink RX11 13 "NineMilesOffModel" "figures" "[I", Cond.methodLink RX11 190 yX11_carry, Cond.instanceMethod yX11_carry, Cond.selects RX11 yX11_carry yX11_carry, Cond.code yX11_carry cX11_carry 2 (some .int), Cond.methodLink RX11 178 yX11_comes, Cond.instanceMethod yX11_comes, Cond.selects RX11 yX11_comes yX11_comes, Cond.code yX11_comes cX11_comes 5 (some .boolean), Cond.methodLink RX11 160 yX11_canGo, Cond.instanceMethod yX11_canGo, Cond.selects RX11 yX11_canGo yX11_canGo, Cond.code yX11_canGo cX11_canGo 3 (some .boolean), Cond.methodLink RX11 121 yX11_goneTo, Cond.instanceMethod yX11_goneTo, Cond.selects RX11 yX11_goneTo yX11_goneTo, Cond.code yX11_goneTo cX11_goneTo 4 (some .int)]
def wsX11_land_r4 : List Cond := [Cond.methodLink RX11 110 yX11_beside, Cond.static yX11_beside, Cond.code yX11_beside cX11_beside 2 (some .int), Cond.methodLink RX11 113 yX11_isOpen, Cond.instanceMethod yX11_isOpen, Cond.selects RX11 yX11_isOpen yX11_isOpen, Cond.code yX11_isOpen cX11_isOpen 2 (some .boolean), Cond.fieldLink RX11 48 "NineMilesOffModel" "thoughtOpen" "I", Cond.methodLink RX11 164 yX11_goBoth, Cond.instanceMethod yX11_goBoth, Cond.selects RX11 yX11_goBoth yX11_goBoth, Cond.code yX11_goBoth cX11_goBoth 4 none, Cond.methodLink RX11 106 yX11_farOf, Cond.instanceMethod yX11_farOf, Cond.selects RX11 yX11_farOf yX11_farOf, Cond.code yX11_farOf cX11_farOf 3 (some .int), Cond.methodLink RX11 99 yX11_plainly, Cond.static yX11_plainly, Cond.code yX11_plainly cX11_plainly 1 (some .int), Cond.methodLink RX11 103 yX11_heightOf, Cond.instanceMethod yX11_heightOf, Cond.selects RX11 yX11_heightOf yX11_heightOf, Cond.code yX11_heightOf cX11_heightOf 2 (some .int)]
def wsX11_land : List Cond := .code yX11_land cX11_land 4 (some .int) :: ((wsX11_land_r1 ++ (wsX11_land_r2 ++ (wsX11_land_r3 ++ wsX11_land_r4))) ++ wsX110)
def wsX11_image_r1 : List Cond := [Cond.fieldLink RX11 87 "NineMilesOffModel" "thrown" "I", Cond.fieldLink RX11 193 "NineMilesOffModel" "hasImage" "Z", Cond.fieldLink RX11 63 "NineMilesOffModel" "imaged" "[I", Cond.fieldLink RX11 151 "NineMilesOffModel" "day" "I", Cond.methodLink RX11 174 yX11_carryAll, Cond.instanceMethod yX11_carryAll, Cond.selects RX11 yX11_carryAll yX11_carryAll, Cond.initialized RX11, Cond.code yX11_carryAll cX11_carryAll 4 none, Cond.fieldLink RX11 184 "NineMilesOffModel" "keptIn" "[I", Cond.fieldLink RX11 181 "NineMilesOffModel" "isTaking" "Z", Cond.fieldLink RX11 187 "NineMilesOffModel" "place0" "I", Cond.fieldLink RX11 96 "NineMilesOffModel" "winter" "I", Cond.fieldLink RX11 16 "NineMilesOffModel" "nearest" "I", Cond.fieldLink RX11 20 "NineMilesOffModel" "farthest" "I", Cond.fieldLink RX11 23 "NineMilesOffModel" "his" "I", Cond.fieldLink RX11 26 "NineMilesOffModel" "hers" "I", Cond.fieldLink RX11 154 "NineMilesOffModel" "stopped" "I", Cond.fieldLink RX11 157 "NineMilesOffModel" "pain" "I", Cond.fieldLink RX11 7 "NineMilesOffModel" "kinds" "[I", Cond.fieldLink RX11 13 "NineMilesOffModel" "figures" "[I", Cond.methodLink RX11 190 yX11_carry, Cond.instanceMethod yX11_carry, Cond.selects RX11 yX11_carry yX11_carry]
def wsX11_image_r2 : List Cond := [Cond.code yX11_carry cX11_carry 2 (some .int)]
def wsX11_image : List Cond := .code yX11_image cX11_image 1 (some .int) :: ((wsX11_image_r1 ++ wsX11_image_r2) ++ wsX110)
def wsX11_restore_r1 : List Cond := [Cond.fieldLink RX11 87 "NineMilesOffModel" "thrown" "I", Cond.fieldLink RX11 193 "NineMilesOffModel" "hasImage" "Z", Cond.fieldLink RX11 63 "NineMilesOffModel" "imaged" "[I", Cond.fieldLink RX11 151 "NineMilesOffModel" "day" "I", Cond.methodLink RX11 174 yX11_carryAll, Cond.instanceMethod yX11_carryAll, Cond.selects RX11 yX11_carryAll yX11_carryAll, Cond.initialized RX11, Cond.code yX11_carryAll cX11_carryAll 4 none, Cond.fieldLink RX11 184 "NineMilesOffModel" "keptIn" "[I", Cond.fieldLink RX11 181 "NineMilesOffModel" "isTaking" "Z", Cond.fieldLink RX11 187 "NineMilesOffModel" "place0" "I", Cond.fieldLink RX11 96 "NineMilesOffModel" "winter" "I", Cond.fieldLink RX11 16 "NineMilesOffModel" "nearest" "I", Cond.fieldLink RX11 20 "NineMilesOffModel" "farthest" "I", Cond.fieldLink RX11 23 "NineMilesOffModel" "his" "I", Cond.fieldLink RX11 26 "NineMilesOffModel" "hers" "I", Cond.fieldLink RX11 154 "NineMilesOffModel" "stopped" "I", Cond.fieldLink RX11 157 "NineMilesOffModel" "pain" "I", Cond.fieldLink RX11 7 "NineMilesOffModel" "kinds" "[I", Cond.fieldLink RX11 13 "NineMilesOffModel" "figures" "[I", Cond.methodLink RX11 190 yX11_carry, Cond.instanceMethod yX11_carry, Cond.selects RX11 yX11_carry yX11_carry]
def wsX11_restore_r2 : List Cond := [Cond.code yX11_carry cX11_carry 2 (some .int)]
def wsX11_restore : List Cond := .code yX11_restore cX11_restore 1 (some .int) :: ((wsX11_restore_r1 ++ wsX11_restore_r2) ++ wsX110)
def wsX11_ground_r1 : List Cond := [Cond.fieldLink RX11 87 "NineMilesOffModel" "thrown" "I", Cond.fieldLink RX11 7 "NineMilesOffModel" "kinds" "[I", Cond.fieldLink RX11 13 "NineMilesOffModel" "figures" "[I", Cond.methodLink RX11 196 yX11_isCell, Cond.static yX11_isCell, Cond.initialized RX11, Cond.code yX11_isCell cX11_isCell 2 (some .boolean), Cond.constantLong RX11 90 (35), Cond.methodLink RX11 92 yX11_in, Cond.static yX11_in, Cond.code yX11_in cX11_in 6 (some .boolean), Cond.methodLink RX11 103 yX11_heightOf, Cond.instanceMethod yX11_heightOf, Cond.selects RX11 yX11_heightOf yX11_heightOf, Cond.code yX11_heightOf cX11_heightOf 2 (some .int), Cond.methodLink RX11 113 yX11_isOpen, Cond.instanceMethod yX11_isOpen, Cond.selects RX11 yX11_isOpen yX11_isOpen, Cond.code yX11_isOpen cX11_isOpen 2 (some .boolean), Cond.fieldLink RX11 48 "NineMilesOffModel" "thoughtOpen" "I", Cond.fieldLink RX11 96 "NineMilesOffModel" "winter" "I", Cond.methodLink RX11 200 yX11_chanceOf, Cond.instanceMethod yX11_chanceOf, Cond.selects RX11 yX11_chanceOf yX11_chanceOf]
def wsX11_ground_r2 : List Cond := [Cond.code yX11_chanceOf cX11_chanceOf 2 (some .int)]
def wsX11_ground : List Cond := .code yX11_ground cX11_ground 3 (some .int) :: ((wsX11_ground_r1 ++ wsX11_ground_r2) ++ wsX110)
def wsX11_wrongKept : List Cond := .code yX11_wrongKept cX11_wrongKept 2 (some .int) :: ([.constantLong RX11 203 (7), .fieldLink RX11 29 "NineMilesOffModel" "holdsWhat" "[I", .methodLink RX11 92 yX11_in, .static yX11_in, .initialized RX11, .code yX11_in cX11_in 6 (some .boolean)] ++ wsX110)
def wsX11_lays : List Cond := .code yX11_lays cX11_lays 5 (some .int) :: ([.fieldLink RX11 87 "NineMilesOffModel" "thrown" "I", .fieldLink RX11 7 "NineMilesOffModel" "kinds" "[I", .fieldLink RX11 32 "NineMilesOffModel" "keptKind" "[I", .fieldLink RX11 13 "NineMilesOffModel" "figures" "[I", .fieldLink RX11 35 "NineMilesOffModel" "keptFigure" "[I", .methodLink RX11 196 yX11_isCell, .static yX11_isCell, .initialized RX11, .code yX11_isCell cX11_isCell 2 (some .boolean), .constantLong RX11 90 (35), .methodLink RX11 92 yX11_in, .static yX11_in, .code yX11_in cX11_in 6 (some .boolean), .methodLink RX11 205 yX11_wrongKept, .instanceMethod yX11_wrongKept, .selects RX11 yX11_wrongKept yX11_wrongKept, .code yX11_wrongKept cX11_wrongKept 2 (some .int), .constantLong RX11 203 (7), .fieldLink RX11 29 "NineMilesOffModel" "holdsWhat" "[I"] ++ wsX110)
def wsX11_stands : List Cond := .code yX11_stands cX11_stands 4 (some .int) :: ([.fieldLink RX11 87 "NineMilesOffModel" "thrown" "I", .fieldLink RX11 23 "NineMilesOffModel" "his" "I", .fieldLink RX11 26 "NineMilesOffModel" "hers" "I", .methodLink RX11 92 yX11_in, .static yX11_in, .initialized RX11, .code yX11_in cX11_in 6 (some .boolean), .methodLink RX11 196 yX11_isCell, .static yX11_isCell, .code yX11_isCell cX11_isCell 2 (some .boolean), .constantLong RX11 90 (35), .methodLink RX11 113 yX11_isOpen, .instanceMethod yX11_isOpen, .selects RX11 yX11_isOpen yX11_isOpen, .code yX11_isOpen cX11_isOpen 2 (some .boolean), .fieldLink RX11 48 "NineMilesOffModel" "thoughtOpen" "I", .fieldLink RX11 7 "NineMilesOffModel" "kinds" "[I", .fieldLink RX11 96 "NineMilesOffModel" "winter" "I", .fieldLink RX11 13 "NineMilesOffModel" "figures" "[I"] ++ wsX110)
def wsX11_set : List Cond := .code yX11_set cX11_set 4 (some .int) :: ([.fieldLink RX11 87 "NineMilesOffModel" "thrown" "I", .constantLong RX11 208 (2), .constantLong RX11 210 (20), .fieldLink RX11 16 "NineMilesOffModel" "nearest" "I", .fieldLink RX11 20 "NineMilesOffModel" "farthest" "I", .fieldLink RX11 96 "NineMilesOffModel" "winter" "I", .methodLink RX11 92 yX11_in, .static yX11_in, .initialized RX11, .code yX11_in cX11_in 6 (some .boolean)] ++ wsX110)
def wsX11_go_r1 : List Cond := [Cond.fieldLink RX11 87 "NineMilesOffModel" "thrown" "I", Cond.constantLong RX11 212 (4), Cond.fieldLink RX11 23 "NineMilesOffModel" "his" "I", Cond.fieldLink RX11 26 "NineMilesOffModel" "hers" "I", Cond.methodLink RX11 92 yX11_in, Cond.static yX11_in, Cond.initialized RX11, Cond.code yX11_in cX11_in 6 (some .boolean), Cond.methodLink RX11 160 yX11_canGo, Cond.instanceMethod yX11_canGo, Cond.selects RX11 yX11_canGo yX11_canGo, Cond.code yX11_canGo cX11_canGo 3 (some .boolean), Cond.fieldLink RX11 151 "NineMilesOffModel" "day" "I", Cond.methodLink RX11 121 yX11_goneTo, Cond.instanceMethod yX11_goneTo, Cond.selects RX11 yX11_goneTo yX11_goneTo, Cond.code yX11_goneTo cX11_goneTo 4 (some .int), Cond.methodLink RX11 110 yX11_beside, Cond.static yX11_beside, Cond.code yX11_beside cX11_beside 2 (some .int), Cond.methodLink RX11 113 yX11_isOpen, Cond.instanceMethod yX11_isOpen, Cond.selects RX11 yX11_isOpen yX11_isOpen, Cond.code yX11_isOpen cX11_isOpen 2 (some .boolean)]
def wsX11_go_r2 : List Cond := [Cond.fieldLink RX11 48 "NineMilesOffModel" "thoughtOpen" "I", Cond.fieldLink RX11 7 "NineMilesOffModel" "kinds" "[I", Cond.fieldLink RX11 96 "NineMilesOffModel" "winter" "I", Cond.fieldLink RX11 13 "NineMilesOffModel" "figures" "[I", Cond.methodLink RX11 164 yX11_goBoth, Cond.instanceMethod yX11_goBoth, Cond.selects RX11 yX11_goBoth yX11_goBoth, Cond.code yX11_goBoth cX11_goBoth 4 none, Cond.fieldLink RX11 154 "NineMilesOffModel" "stopped" "I", Cond.fieldLink RX11 16 "NineMilesOffModel" "nearest" "I", Cond.fieldLink RX11 157 "NineMilesOffModel" "pain" "I", Cond.fieldLink RX11 20 "NineMilesOffModel" "farthest" "I", Cond.methodLink RX11 106 yX11_farOf, Cond.instanceMethod yX11_farOf, Cond.selects RX11 yX11_farOf yX11_farOf, Cond.code yX11_farOf cX11_farOf 3 (some .int), Cond.methodLink RX11 99 yX11_plainly, Cond.static yX11_plainly, Cond.code yX11_plainly cX11_plainly 1 (some .int), Cond.methodLink RX11 103 yX11_heightOf, Cond.instanceMethod yX11_heightOf, Cond.selects RX11 yX11_heightOf yX11_heightOf, Cond.code yX11_heightOf cX11_heightOf 2 (some .int)]
def wsX11_go : List Cond := .code yX11_go cX11_go 3 (some .int) :: ((wsX11_go_r1 ++ wsX11_go_r2) ++ wsX110)
def wsX11_far : List Cond := .code yX11_far cX11_far 3 (some .int) :: ([.fieldLink RX11 87 "NineMilesOffModel" "thrown" "I", .methodLink RX11 196 yX11_isCell, .static yX11_isCell, .initialized RX11, .code yX11_isCell cX11_isCell 2 (some .boolean), .constantLong RX11 90 (35), .methodLink RX11 92 yX11_in, .static yX11_in, .code yX11_in cX11_in 6 (some .boolean), .methodLink RX11 106 yX11_farOf, .instanceMethod yX11_farOf, .selects RX11 yX11_farOf yX11_farOf, .code yX11_farOf cX11_farOf 3 (some .int), .methodLink RX11 99 yX11_plainly, .static yX11_plainly, .code yX11_plainly cX11_plainly 1 (some .int), .methodLink RX11 103 yX11_heightOf, .instanceMethod yX11_heightOf, .selects RX11 yX11_heightOf yX11_heightOf, .code yX11_heightOf cX11_heightOf 2 (some .int), .fieldLink RX11 7 "NineMilesOffModel" "kinds" "[I", .fieldLink RX11 13 "NineMilesOffModel" "figures" "[I"] ++ wsX110)
def wsX11_layStepsFrom_r1 : List Cond := [Cond.fieldLink RX11 66 "NineMilesOffModel" "steps" "[I", Cond.methodLink RX11 214 yX11_openCells, Cond.instanceMethod yX11_openCells, Cond.selects RX11 yX11_openCells yX11_openCells, Cond.initialized RX11, Cond.code yX11_openCells cX11_openCells 4 (some .long), Cond.methodLink RX11 113 yX11_isOpen, Cond.instanceMethod yX11_isOpen, Cond.selects RX11 yX11_isOpen yX11_isOpen, Cond.code yX11_isOpen cX11_isOpen 2 (some .boolean), Cond.fieldLink RX11 48 "NineMilesOffModel" "thoughtOpen" "I", Cond.fieldLink RX11 7 "NineMilesOffModel" "kinds" "[I", Cond.fieldLink RX11 96 "NineMilesOffModel" "winter" "I", Cond.fieldLink RX11 13 "NineMilesOffModel" "figures" "[I", Cond.methodLink RX11 117 yX11_isOn, Cond.static yX11_isOn, Cond.code yX11_isOn cX11_isOn 3 (some .boolean), Cond.methodLink RX11 218 yX11_goOn, Cond.instanceMethod yX11_goOn, Cond.selects RX11 yX11_goOn yX11_goOn, Cond.code yX11_goOn cX11_goOn 8 (some .long), Cond.methodLink RX11 121 yX11_goneTo, Cond.instanceMethod yX11_goneTo, Cond.selects RX11 yX11_goneTo yX11_goneTo]
def wsX11_layStepsFrom_r2 : List Cond := [Cond.code yX11_goneTo cX11_goneTo 4 (some .int), Cond.methodLink RX11 110 yX11_beside, Cond.static yX11_beside, Cond.code yX11_beside cX11_beside 2 (some .int)]
def wsX11_layStepsFrom : List Cond := .code yX11_layStepsFrom cX11_layStepsFrom 6 none :: ((wsX11_layStepsFrom_r1 ++ wsX11_layStepsFrom_r2) ++ wsX110)
def wsX11_steps_r1 : List Cond := [Cond.fieldLink RX11 87 "NineMilesOffModel" "thrown" "I", Cond.fieldLink RX11 66 "NineMilesOffModel" "steps" "[I", Cond.methodLink RX11 196 yX11_isCell, Cond.static yX11_isCell, Cond.initialized RX11, Cond.code yX11_isCell cX11_isCell 2 (some .boolean), Cond.constantLong RX11 90 (35), Cond.methodLink RX11 92 yX11_in, Cond.static yX11_in, Cond.code yX11_in cX11_in 6 (some .boolean), Cond.methodLink RX11 222 yX11_layStepsFrom, Cond.instanceMethod yX11_layStepsFrom, Cond.selects RX11 yX11_layStepsFrom yX11_layStepsFrom, Cond.code yX11_layStepsFrom cX11_layStepsFrom 6 none, Cond.methodLink RX11 214 yX11_openCells, Cond.instanceMethod yX11_openCells, Cond.selects RX11 yX11_openCells yX11_openCells, Cond.code yX11_openCells cX11_openCells 4 (some .long), Cond.methodLink RX11 113 yX11_isOpen, Cond.instanceMethod yX11_isOpen, Cond.selects RX11 yX11_isOpen yX11_isOpen, Cond.code yX11_isOpen cX11_isOpen 2 (some .boolean), Cond.fieldLink RX11 48 "NineMilesOffModel" "thoughtOpen" "I", Cond.fieldLink RX11 7 "NineMilesOffModel" "kinds" "[I"]
def wsX11_steps_r2 : List Cond := [Cond.fieldLink RX11 96 "NineMilesOffModel" "winter" "I", Cond.fieldLink RX11 13 "NineMilesOffModel" "figures" "[I", Cond.methodLink RX11 117 yX11_isOn, Cond.static yX11_isOn, Cond.code yX11_isOn cX11_isOn 3 (some .boolean), Cond.methodLink RX11 218 yX11_goOn, Cond.instanceMethod yX11_goOn, Cond.selects RX11 yX11_goOn yX11_goOn, Cond.code yX11_goOn cX11_goOn 8 (some .long), Cond.methodLink RX11 121 yX11_goneTo, Cond.instanceMethod yX11_goneTo, Cond.selects RX11 yX11_goneTo yX11_goneTo, Cond.code yX11_goneTo cX11_goneTo 4 (some .int), Cond.methodLink RX11 110 yX11_beside, Cond.static yX11_beside, Cond.code yX11_beside cX11_beside 2 (some .int)]
def wsX11_steps : List Cond := .code yX11_steps cX11_steps 3 (some .int) :: ((wsX11_steps_r1 ++ wsX11_steps_r2) ++ wsX110)
def wsX11_isPair_r1 : List Cond := [Cond.methodLink RX11 113 yX11_isOpen, Cond.instanceMethod yX11_isOpen, Cond.selects RX11 yX11_isOpen yX11_isOpen, Cond.initialized RX11, Cond.code yX11_isOpen cX11_isOpen 2 (some .boolean), Cond.fieldLink RX11 48 "NineMilesOffModel" "thoughtOpen" "I", Cond.fieldLink RX11 7 "NineMilesOffModel" "kinds" "[I", Cond.fieldLink RX11 96 "NineMilesOffModel" "winter" "I", Cond.fieldLink RX11 13 "NineMilesOffModel" "figures" "[I", Cond.methodLink RX11 226 yX11_isOff, Cond.instanceMethod yX11_isOff, Cond.selects RX11 yX11_isOff yX11_isOff, Cond.code yX11_isOff cX11_isOff 3 (some .boolean), Cond.fieldLink RX11 16 "NineMilesOffModel" "nearest" "I", Cond.fieldLink RX11 20 "NineMilesOffModel" "farthest" "I", Cond.methodLink RX11 106 yX11_farOf, Cond.instanceMethod yX11_farOf, Cond.selects RX11 yX11_farOf yX11_farOf, Cond.code yX11_farOf cX11_farOf 3 (some .int), Cond.methodLink RX11 99 yX11_plainly, Cond.static yX11_plainly, Cond.code yX11_plainly cX11_plainly 1 (some .int), Cond.methodLink RX11 103 yX11_heightOf, Cond.instanceMethod yX11_heightOf]
def wsX11_isPair_r2 : List Cond := [Cond.selects RX11 yX11_heightOf yX11_heightOf, Cond.code yX11_heightOf cX11_heightOf 2 (some .int)]
def wsX11_isPair : List Cond := .code yX11_isPair cX11_isPair 3 (some .boolean) :: ((wsX11_isPair_r1 ++ wsX11_isPair_r2) ++ wsX110)
def wsX11_pairMany_r1 : List Cond := [Cond.methodLink RX11 229 yX11_isPair, Cond.instanceMethod yX11_isPair, Cond.selects RX11 yX11_isPair yX11_isPair, Cond.initialized RX11, Cond.code yX11_isPair cX11_isPair 3 (some .boolean), Cond.methodLink RX11 113 yX11_isOpen, Cond.instanceMethod yX11_isOpen, Cond.selects RX11 yX11_isOpen yX11_isOpen, Cond.code yX11_isOpen cX11_isOpen 2 (some .boolean), Cond.fieldLink RX11 48 "NineMilesOffModel" "thoughtOpen" "I", Cond.fieldLink RX11 7 "NineMilesOffModel" "kinds" "[I", Cond.fieldLink RX11 96 "NineMilesOffModel" "winter" "I", Cond.fieldLink RX11 13 "NineMilesOffModel" "figures" "[I", Cond.methodLink RX11 226 yX11_isOff, Cond.instanceMethod yX11_isOff, Cond.selects RX11 yX11_isOff yX11_isOff, Cond.code yX11_isOff cX11_isOff 3 (some .boolean), Cond.fieldLink RX11 16 "NineMilesOffModel" "nearest" "I", Cond.fieldLink RX11 20 "NineMilesOffModel" "farthest" "I", Cond.methodLink RX11 106 yX11_farOf, Cond.instanceMethod yX11_farOf, Cond.selects RX11 yX11_farOf yX11_farOf, Cond.code yX11_farOf cX11_farOf 3 (some .int), Cond.methodLink RX11 99 yX11_plainly]
def wsX11_pairMany_r2 : List Cond := [Cond.static yX11_plainly, Cond.code yX11_plainly cX11_plainly 1 (some .int), Cond.methodLink RX11 103 yX11_heightOf, Cond.instanceMethod yX11_heightOf, Cond.selects RX11 yX11_heightOf yX11_heightOf, Cond.code yX11_heightOf cX11_heightOf 2 (some .int)]
def wsX11_pairMany : List Cond := .code yX11_pairMany cX11_pairMany 3 (some .int) :: ((wsX11_pairMany_r1 ++ wsX11_pairMany_r2) ++ wsX110)
def wsX11_pairs_r1 : List Cond := [Cond.fieldLink RX11 87 "NineMilesOffModel" "thrown" "I", Cond.methodLink RX11 232 yX11_pairMany, Cond.instanceMethod yX11_pairMany, Cond.selects RX11 yX11_pairMany yX11_pairMany, Cond.initialized RX11, Cond.code yX11_pairMany cX11_pairMany 3 (some .int), Cond.methodLink RX11 229 yX11_isPair, Cond.instanceMethod yX11_isPair, Cond.selects RX11 yX11_isPair yX11_isPair, Cond.code yX11_isPair cX11_isPair 3 (some .boolean), Cond.methodLink RX11 113 yX11_isOpen, Cond.instanceMethod yX11_isOpen, Cond.selects RX11 yX11_isOpen yX11_isOpen, Cond.code yX11_isOpen cX11_isOpen 2 (some .boolean), Cond.fieldLink RX11 48 "NineMilesOffModel" "thoughtOpen" "I", Cond.fieldLink RX11 7 "NineMilesOffModel" "kinds" "[I", Cond.fieldLink RX11 96 "NineMilesOffModel" "winter" "I", Cond.fieldLink RX11 13 "NineMilesOffModel" "figures" "[I", Cond.methodLink RX11 226 yX11_isOff, Cond.instanceMethod yX11_isOff, Cond.selects RX11 yX11_isOff yX11_isOff, Cond.code yX11_isOff cX11_isOff 3 (some .boolean), Cond.fieldLink RX11 16 "NineMilesOffModel" "nearest" "I", Cond.fieldLink RX11 20 "NineMilesOffModel" "farthest" "I"]
def wsX11_pairs_r2 : List Cond := [Cond.methodLink RX11 106 yX11_farOf, Cond.instanceMethod yX11_farOf, Cond.selects RX11 yX11_farOf yX11_farOf, Cond.code yX11_farOf cX11_farOf 3 (some .int), Cond.methodLink RX11 99 yX11_plainly, Cond.static yX11_plainly, Cond.code yX11_plainly cX11_plainly 1 (some .int), Cond.methodLink RX11 103 yX11_heightOf, Cond.instanceMethod yX11_heightOf, Cond.selects RX11 yX11_heightOf yX11_heightOf, Cond.code yX11_heightOf cX11_heightOf 2 (some .int)]
def wsX11_pairs : List Cond := .code yX11_pairs cX11_pairs 4 (some .int) :: ((wsX11_pairs_r1 ++ wsX11_pairs_r2) ++ wsX110)
def wsX11_partWith_r1 : List Cond := [Cond.fieldLink RX11 66 "NineMilesOffModel" "steps" "[I", Cond.methodLink RX11 222 yX11_layStepsFrom, Cond.instanceMethod yX11_layStepsFrom, Cond.selects RX11 yX11_layStepsFrom yX11_layStepsFrom, Cond.initialized RX11, Cond.code yX11_layStepsFrom cX11_layStepsFrom 6 none, Cond.methodLink RX11 214 yX11_openCells, Cond.instanceMethod yX11_openCells, Cond.selects RX11 yX11_openCells yX11_openCells, Cond.code yX11_openCells cX11_openCells 4 (some .long), Cond.methodLink RX11 113 yX11_isOpen, Cond.instanceMethod yX11_isOpen, Cond.selects RX11 yX11_isOpen yX11_isOpen, Cond.code yX11_isOpen cX11_isOpen 2 (some .boolean), Cond.fieldLink RX11 48 "NineMilesOffModel" "thoughtOpen" "I", Cond.fieldLink RX11 7 "NineMilesOffModel" "kinds" "[I", Cond.fieldLink RX11 96 "NineMilesOffModel" "winter" "I", Cond.fieldLink RX11 13 "NineMilesOffModel" "figures" "[I", Cond.methodLink RX11 117 yX11_isOn, Cond.static yX11_isOn, Cond.code yX11_isOn cX11_isOn 3 (some .boolean), Cond.methodLink RX11 218 yX11_goOn, Cond.instanceMethod yX11_goOn, Cond.selects RX11 yX11_goOn yX11_goOn]
def wsX11_partWith_r2 : List Cond := [Cond.code yX11_goOn cX11_goOn 8 (some .long), Cond.methodLink RX11 121 yX11_goneTo, Cond.instanceMethod yX11_goneTo, Cond.selects RX11 yX11_goneTo yX11_goneTo, Cond.code yX11_goneTo cX11_goneTo 4 (some .int), Cond.methodLink RX11 110 yX11_beside, Cond.static yX11_beside, Cond.code yX11_beside cX11_beside 2 (some .int)]
def wsX11_partWith : List Cond := .code yX11_partWith cX11_partWith 5 (some .long) :: ((wsX11_partWith_r1 ++ wsX11_partWith_r2) ++ wsX110)
def wsX11_islands_r1 : List Cond := [Cond.fieldLink RX11 87 "NineMilesOffModel" "thrown" "I", Cond.methodLink RX11 113 yX11_isOpen, Cond.instanceMethod yX11_isOpen, Cond.selects RX11 yX11_isOpen yX11_isOpen, Cond.initialized RX11, Cond.code yX11_isOpen cX11_isOpen 2 (some .boolean), Cond.fieldLink RX11 48 "NineMilesOffModel" "thoughtOpen" "I", Cond.fieldLink RX11 7 "NineMilesOffModel" "kinds" "[I", Cond.fieldLink RX11 96 "NineMilesOffModel" "winter" "I", Cond.fieldLink RX11 13 "NineMilesOffModel" "figures" "[I", Cond.methodLink RX11 117 yX11_isOn, Cond.static yX11_isOn, Cond.code yX11_isOn cX11_isOn 3 (some .boolean), Cond.methodLink RX11 235 yX11_partWith, Cond.instanceMethod yX11_partWith, Cond.selects RX11 yX11_partWith yX11_partWith, Cond.code yX11_partWith cX11_partWith 5 (some .long), Cond.fieldLink RX11 66 "NineMilesOffModel" "steps" "[I", Cond.methodLink RX11 222 yX11_layStepsFrom, Cond.instanceMethod yX11_layStepsFrom, Cond.selects RX11 yX11_layStepsFrom yX11_layStepsFrom, Cond.code yX11_layStepsFrom cX11_layStepsFrom 6 none, Cond.methodLink RX11 214 yX11_openCells, Cond.instanceMethod yX11_openCells]
def wsX11_islands_r2 : List Cond := [Cond.selects RX11 yX11_openCells yX11_openCells, Cond.code yX11_openCells cX11_openCells 4 (some .long), Cond.methodLink RX11 218 yX11_goOn, Cond.instanceMethod yX11_goOn, Cond.selects RX11 yX11_goOn yX11_goOn, Cond.code yX11_goOn cX11_goOn 8 (some .long), Cond.methodLink RX11 121 yX11_goneTo, Cond.instanceMethod yX11_goneTo, Cond.selects RX11 yX11_goneTo yX11_goneTo, Cond.code yX11_goneTo cX11_goneTo 4 (some .int), Cond.methodLink RX11 110 yX11_beside, Cond.static yX11_beside, Cond.code yX11_beside cX11_beside 2 (some .int)]
def wsX11_islands : List Cond := .code yX11_islands cX11_islands 5 (some .int) :: ((wsX11_islands_r1 ++ wsX11_islands_r2) ++ wsX110)
def wsX11_island_r1 : List Cond := [Cond.fieldLink RX11 87 "NineMilesOffModel" "thrown" "I", Cond.methodLink RX11 196 yX11_isCell, Cond.static yX11_isCell, Cond.initialized RX11, Cond.code yX11_isCell cX11_isCell 2 (some .boolean), Cond.constantLong RX11 90 (35), Cond.methodLink RX11 92 yX11_in, Cond.static yX11_in, Cond.code yX11_in cX11_in 6 (some .boolean), Cond.methodLink RX11 113 yX11_isOpen, Cond.instanceMethod yX11_isOpen, Cond.selects RX11 yX11_isOpen yX11_isOpen, Cond.code yX11_isOpen cX11_isOpen 2 (some .boolean), Cond.fieldLink RX11 48 "NineMilesOffModel" "thoughtOpen" "I", Cond.fieldLink RX11 7 "NineMilesOffModel" "kinds" "[I", Cond.fieldLink RX11 96 "NineMilesOffModel" "winter" "I", Cond.fieldLink RX11 13 "NineMilesOffModel" "figures" "[I", Cond.methodLink RX11 235 yX11_partWith, Cond.instanceMethod yX11_partWith, Cond.selects RX11 yX11_partWith yX11_partWith, Cond.code yX11_partWith cX11_partWith 5 (some .long), Cond.fieldLink RX11 66 "NineMilesOffModel" "steps" "[I", Cond.methodLink RX11 222 yX11_layStepsFrom, Cond.instanceMethod yX11_layStepsFrom]
def wsX11_island_r2 : List Cond := [Cond.selects RX11 yX11_layStepsFrom yX11_layStepsFrom, Cond.code yX11_layStepsFrom cX11_layStepsFrom 6 none, Cond.methodLink RX11 214 yX11_openCells, Cond.instanceMethod yX11_openCells, Cond.selects RX11 yX11_openCells yX11_openCells, Cond.code yX11_openCells cX11_openCells 4 (some .long), Cond.methodLink RX11 117 yX11_isOn, Cond.static yX11_isOn, Cond.code yX11_isOn cX11_isOn 3 (some .boolean), Cond.methodLink RX11 218 yX11_goOn, Cond.instanceMethod yX11_goOn, Cond.selects RX11 yX11_goOn yX11_goOn, Cond.code yX11_goOn cX11_goOn 8 (some .long), Cond.methodLink RX11 121 yX11_goneTo, Cond.instanceMethod yX11_goneTo, Cond.selects RX11 yX11_goneTo yX11_goneTo, Cond.code yX11_goneTo cX11_goneTo 4 (some .int), Cond.methodLink RX11 110 yX11_beside, Cond.static yX11_beside, Cond.code yX11_beside cX11_beside 2 (some .int), Cond.methodLink RX11 239 yX11_onesOf, Cond.static yX11_onesOf, Cond.code yX11_onesOf cX11_onesOf 5 (some .int)]
def wsX11_island : List Cond := .code yX11_island cX11_island 2 (some .int) :: ((wsX11_island_r1 ++ wsX11_island_r2) ++ wsX110)
def wsX11_middle_r1 : List Cond := [Cond.fieldLink RX11 87 "NineMilesOffModel" "thrown" "I", Cond.fieldLink RX11 66 "NineMilesOffModel" "steps" "[I", Cond.methodLink RX11 92 yX11_in, Cond.static yX11_in, Cond.initialized RX11, Cond.code yX11_in cX11_in 6 (some .boolean), Cond.methodLink RX11 235 yX11_partWith, Cond.instanceMethod yX11_partWith, Cond.selects RX11 yX11_partWith yX11_partWith, Cond.code yX11_partWith cX11_partWith 5 (some .long), Cond.methodLink RX11 222 yX11_layStepsFrom, Cond.instanceMethod yX11_layStepsFrom, Cond.selects RX11 yX11_layStepsFrom yX11_layStepsFrom, Cond.code yX11_layStepsFrom cX11_layStepsFrom 6 none, Cond.methodLink RX11 214 yX11_openCells, Cond.instanceMethod yX11_openCells, Cond.selects RX11 yX11_openCells yX11_openCells, Cond.code yX11_openCells cX11_openCells 4 (some .long), Cond.methodLink RX11 113 yX11_isOpen, Cond.instanceMethod yX11_isOpen, Cond.selects RX11 yX11_isOpen yX11_isOpen, Cond.code yX11_isOpen cX11_isOpen 2 (some .boolean), Cond.fieldLink RX11 48 "NineMilesOffModel" "thoughtOpen" "I", Cond.fieldLink RX11 7 "NineMilesOffModel" "kinds" "[I"]
def wsX11_middle_r2 : List Cond := [Cond.fieldLink RX11 96 "NineMilesOffModel" "winter" "I", Cond.fieldLink RX11 13 "NineMilesOffModel" "figures" "[I", Cond.methodLink RX11 117 yX11_isOn, Cond.static yX11_isOn, Cond.code yX11_isOn cX11_isOn 3 (some .boolean), Cond.methodLink RX11 218 yX11_goOn, Cond.instanceMethod yX11_goOn, Cond.selects RX11 yX11_goOn yX11_goOn, Cond.code yX11_goOn cX11_goOn 8 (some .long), Cond.methodLink RX11 121 yX11_goneTo, Cond.instanceMethod yX11_goneTo, Cond.selects RX11 yX11_goneTo yX11_goneTo, Cond.code yX11_goneTo cX11_goneTo 4 (some .int), Cond.methodLink RX11 110 yX11_beside, Cond.static yX11_beside, Cond.code yX11_beside cX11_beside 2 (some .int), Cond.methodLink RX11 239 yX11_onesOf, Cond.static yX11_onesOf, Cond.code yX11_onesOf cX11_onesOf 5 (some .int)]
def wsX11_middle : List Cond := .code yX11_middle cX11_middle 9 (some .int) :: ((wsX11_middle_r1 ++ wsX11_middle_r2) ++ wsX110)
def wsX11_layDaysFrom_r1 : List Cond := [Cond.fieldLink RX11 69 "NineMilesOffModel" "days" "[I", Cond.fieldLink RX11 72 "NineMilesOffModel" "queue" "[I", Cond.methodLink RX11 229 yX11_isPair, Cond.instanceMethod yX11_isPair, Cond.selects RX11 yX11_isPair yX11_isPair, Cond.initialized RX11, Cond.code yX11_isPair cX11_isPair 3 (some .boolean), Cond.methodLink RX11 113 yX11_isOpen, Cond.instanceMethod yX11_isOpen, Cond.selects RX11 yX11_isOpen yX11_isOpen, Cond.code yX11_isOpen cX11_isOpen 2 (some .boolean), Cond.fieldLink RX11 48 "NineMilesOffModel" "thoughtOpen" "I", Cond.fieldLink RX11 7 "NineMilesOffModel" "kinds" "[I", Cond.fieldLink RX11 96 "NineMilesOffModel" "winter" "I", Cond.fieldLink RX11 13 "NineMilesOffModel" "figures" "[I", Cond.methodLink RX11 226 yX11_isOff, Cond.instanceMethod yX11_isOff, Cond.selects RX11 yX11_isOff yX11_isOff, Cond.code yX11_isOff cX11_isOff 3 (some .boolean), Cond.fieldLink RX11 16 "NineMilesOffModel" "nearest" "I", Cond.fieldLink RX11 20 "NineMilesOffModel" "farthest" "I", Cond.methodLink RX11 106 yX11_farOf, Cond.instanceMethod yX11_farOf, Cond.selects RX11 yX11_farOf yX11_farOf]
def wsX11_layDaysFrom_r2 : List Cond := [Cond.code yX11_farOf cX11_farOf 3 (some .int), Cond.methodLink RX11 99 yX11_plainly, Cond.static yX11_plainly, Cond.code yX11_plainly cX11_plainly 1 (some .int), Cond.methodLink RX11 103 yX11_heightOf, Cond.instanceMethod yX11_heightOf, Cond.selects RX11 yX11_heightOf yX11_heightOf, Cond.code yX11_heightOf cX11_heightOf 2 (some .int), Cond.methodLink RX11 121 yX11_goneTo, Cond.instanceMethod yX11_goneTo, Cond.selects RX11 yX11_goneTo yX11_goneTo, Cond.code yX11_goneTo cX11_goneTo 4 (some .int), Cond.methodLink RX11 110 yX11_beside, Cond.static yX11_beside, Cond.code yX11_beside cX11_beside 2 (some .int)]
def wsX11_layDaysFrom : List Cond := .code yX11_layDaysFrom cX11_layDaysFrom 8 none :: ((wsX11_layDaysFrom_r1 ++ wsX11_layDaysFrom_r2) ++ wsX110)
def wsX11_areBoth : List Cond := .code yX11_areBoth cX11_areBoth 1 (some .boolean) :: ([.fieldLink RX11 23 "NineMilesOffModel" "his" "I", .fieldLink RX11 26 "NineMilesOffModel" "hers" "I"] ++ wsX110)
def wsX11_wrongTwo : List Cond := .code yX11_wrongTwo cX11_wrongTwo 3 (some .int) :: ([.methodLink RX11 196 yX11_isCell, .static yX11_isCell, .initialized RX11, .code yX11_isCell cX11_isCell 2 (some .boolean), .constantLong RX11 90 (35), .methodLink RX11 92 yX11_in, .static yX11_in, .code yX11_in cX11_in 6 (some .boolean), .methodLink RX11 243 yX11_areBoth, .instanceMethod yX11_areBoth, .selects RX11 yX11_areBoth yX11_areBoth, .code yX11_areBoth cX11_areBoth 1 (some .boolean), .fieldLink RX11 23 "NineMilesOffModel" "his" "I", .fieldLink RX11 26 "NineMilesOffModel" "hers" "I"] ++ wsX110)
def wsX11_seeDays_r1 : List Cond := [Cond.fieldLink RX11 23 "NineMilesOffModel" "his" "I", Cond.fieldLink RX11 26 "NineMilesOffModel" "hers" "I", Cond.fieldLink RX11 69 "NineMilesOffModel" "days" "[I", Cond.methodLink RX11 247 yX11_layDaysFrom, Cond.instanceMethod yX11_layDaysFrom, Cond.selects RX11 yX11_layDaysFrom yX11_layDaysFrom, Cond.initialized RX11, Cond.code yX11_layDaysFrom cX11_layDaysFrom 8 none, Cond.fieldLink RX11 72 "NineMilesOffModel" "queue" "[I", Cond.methodLink RX11 229 yX11_isPair, Cond.instanceMethod yX11_isPair, Cond.selects RX11 yX11_isPair yX11_isPair, Cond.code yX11_isPair cX11_isPair 3 (some .boolean), Cond.methodLink RX11 113 yX11_isOpen, Cond.instanceMethod yX11_isOpen, Cond.selects RX11 yX11_isOpen yX11_isOpen, Cond.code yX11_isOpen cX11_isOpen 2 (some .boolean), Cond.fieldLink RX11 48 "NineMilesOffModel" "thoughtOpen" "I", Cond.fieldLink RX11 7 "NineMilesOffModel" "kinds" "[I", Cond.fieldLink RX11 96 "NineMilesOffModel" "winter" "I", Cond.fieldLink RX11 13 "NineMilesOffModel" "figures" "[I", Cond.methodLink RX11 226 yX11_isOff, Cond.instanceMethod yX11_isOff, Cond.selects RX11 yX11_isOff yX11_isOff]
def wsX11_seeDays_r2 : List Cond := [Cond.code yX11_isOff cX11_isOff 3 (some .boolean), Cond.fieldLink RX11 16 "NineMilesOffModel" "nearest" "I", Cond.fieldLink RX11 20 "NineMilesOffModel" "farthest" "I", Cond.methodLink RX11 106 yX11_farOf, Cond.instanceMethod yX11_farOf, Cond.selects RX11 yX11_farOf yX11_farOf, Cond.code yX11_farOf cX11_farOf 3 (some .int), Cond.methodLink RX11 99 yX11_plainly, Cond.static yX11_plainly, Cond.code yX11_plainly cX11_plainly 1 (some .int), Cond.methodLink RX11 103 yX11_heightOf, Cond.instanceMethod yX11_heightOf, Cond.selects RX11 yX11_heightOf yX11_heightOf, Cond.code yX11_heightOf cX11_heightOf 2 (some .int), Cond.methodLink RX11 121 yX11_goneTo, Cond.instanceMethod yX11_goneTo, Cond.selects RX11 yX11_goneTo yX11_goneTo, Cond.code yX11_goneTo cX11_goneTo 4 (some .int), Cond.methodLink RX11 110 yX11_beside, Cond.static yX11_beside, Cond.code yX11_beside cX11_beside 2 (some .int)]
def wsX11_seeDays : List Cond := .code yX11_seeDays cX11_seeDays 4 (some .int) :: ((wsX11_seeDays_r1 ++ wsX11_seeDays_r2) ++ wsX110)
def wsX11_see_r1 : List Cond := [Cond.fieldLink RX11 87 "NineMilesOffModel" "thrown" "I", Cond.methodLink RX11 250 yX11_wrongTwo, Cond.instanceMethod yX11_wrongTwo, Cond.selects RX11 yX11_wrongTwo yX11_wrongTwo, Cond.initialized RX11, Cond.code yX11_wrongTwo cX11_wrongTwo 3 (some .int), Cond.methodLink RX11 196 yX11_isCell, Cond.static yX11_isCell, Cond.code yX11_isCell cX11_isCell 2 (some .boolean), Cond.constantLong RX11 90 (35), Cond.methodLink RX11 92 yX11_in, Cond.static yX11_in, Cond.code yX11_in cX11_in 6 (some .boolean), Cond.methodLink RX11 243 yX11_areBoth, Cond.instanceMethod yX11_areBoth, Cond.selects RX11 yX11_areBoth yX11_areBoth, Cond.code yX11_areBoth cX11_areBoth 1 (some .boolean), Cond.fieldLink RX11 23 "NineMilesOffModel" "his" "I", Cond.fieldLink RX11 26 "NineMilesOffModel" "hers" "I", Cond.methodLink RX11 253 yX11_seeDays, Cond.instanceMethod yX11_seeDays, Cond.selects RX11 yX11_seeDays yX11_seeDays, Cond.code yX11_seeDays cX11_seeDays 4 (some .int), Cond.fieldLink RX11 69 "NineMilesOffModel" "days" "[I"]
def wsX11_see_r2 : List Cond := [Cond.methodLink RX11 247 yX11_layDaysFrom, Cond.instanceMethod yX11_layDaysFrom, Cond.selects RX11 yX11_layDaysFrom yX11_layDaysFrom, Cond.code yX11_layDaysFrom cX11_layDaysFrom 8 none, Cond.fieldLink RX11 72 "NineMilesOffModel" "queue" "[I", Cond.methodLink RX11 229 yX11_isPair, Cond.instanceMethod yX11_isPair, Cond.selects RX11 yX11_isPair yX11_isPair, Cond.code yX11_isPair cX11_isPair 3 (some .boolean), Cond.methodLink RX11 113 yX11_isOpen, Cond.instanceMethod yX11_isOpen, Cond.selects RX11 yX11_isOpen yX11_isOpen, Cond.code yX11_isOpen cX11_isOpen 2 (some .boolean), Cond.fieldLink RX11 48 "NineMilesOffModel" "thoughtOpen" "I", Cond.fieldLink RX11 7 "NineMilesOffModel" "kinds" "[I", Cond.fieldLink RX11 96 "NineMilesOffModel" "winter" "I", Cond.fieldLink RX11 13 "NineMilesOffModel" "figures" "[I", Cond.methodLink RX11 226 yX11_isOff, Cond.instanceMethod yX11_isOff, Cond.selects RX11 yX11_isOff yX11_isOff, Cond.code yX11_isOff cX11_isOff 3 (some .boolean), Cond.fieldLink RX11 16 "NineMilesOffModel" "nearest" "I", Cond.fieldLink RX11 20 "NineMilesOffModel" "farthest" "I", Cond.methodLink RX11 106 yX11_farOf]
def wsX11_see_r3 : List Cond := [Cond.instanceMethod yX11_farOf, Cond.selects RX11 yX11_farOf yX11_farOf, Cond.code yX11_farOf cX11_farOf 3 (some .int), Cond.methodLink RX11 99 yX11_plainly, Cond.static yX11_plainly, Cond.code yX11_plainly cX11_plainly 1 (some .int), Cond.methodLink RX11 103 yX11_heightOf, Cond.instanceMethod yX11_heightOf, Cond.selects RX11 yX11_heightOf yX11_heightOf, Cond.code yX11_heightOf cX11_heightOf 2 (some .int), Cond.methodLink RX11 121 yX11_goneTo, Cond.instanceMethod yX11_goneTo, Cond.selects RX11 yX11_goneTo yX11_goneTo, Cond.code yX11_goneTo cX11_goneTo 4 (some .int), Cond.methodLink RX11 110 yX11_beside, Cond.static yX11_beside, Cond.code yX11_beside cX11_beside 2 (some .int)]
def wsX11_see : List Cond := .code yX11_see cX11_see 3 (some .int) :: ((wsX11_see_r1 ++ (wsX11_see_r2 ++ wsX11_see_r3)) ++ wsX110)
def wsX11_way_r1 : List Cond := [Cond.fieldLink RX11 87 "NineMilesOffModel" "thrown" "I", Cond.fieldLink RX11 23 "NineMilesOffModel" "his" "I", Cond.fieldLink RX11 26 "NineMilesOffModel" "hers" "I", Cond.fieldLink RX11 69 "NineMilesOffModel" "days" "[I", Cond.methodLink RX11 250 yX11_wrongTwo, Cond.instanceMethod yX11_wrongTwo, Cond.selects RX11 yX11_wrongTwo yX11_wrongTwo, Cond.initialized RX11, Cond.code yX11_wrongTwo cX11_wrongTwo 3 (some .int), Cond.methodLink RX11 196 yX11_isCell, Cond.static yX11_isCell, Cond.code yX11_isCell cX11_isCell 2 (some .boolean), Cond.constantLong RX11 90 (35), Cond.methodLink RX11 92 yX11_in, Cond.static yX11_in, Cond.code yX11_in cX11_in 6 (some .boolean), Cond.methodLink RX11 243 yX11_areBoth, Cond.instanceMethod yX11_areBoth, Cond.selects RX11 yX11_areBoth yX11_areBoth, Cond.code yX11_areBoth cX11_areBoth 1 (some .boolean), Cond.methodLink RX11 253 yX11_seeDays, Cond.instanceMethod yX11_seeDays, Cond.selects RX11 yX11_seeDays yX11_seeDays, Cond.code yX11_seeDays cX11_seeDays 4 (some .int)]
def wsX11_way_r2 : List Cond := [Cond.methodLink RX11 247 yX11_layDaysFrom, Cond.instanceMethod yX11_layDaysFrom, Cond.selects RX11 yX11_layDaysFrom yX11_layDaysFrom, Cond.code yX11_layDaysFrom cX11_layDaysFrom 8 none, Cond.fieldLink RX11 72 "NineMilesOffModel" "queue" "[I", Cond.methodLink RX11 229 yX11_isPair, Cond.instanceMethod yX11_isPair, Cond.selects RX11 yX11_isPair yX11_isPair, Cond.code yX11_isPair cX11_isPair 3 (some .boolean), Cond.methodLink RX11 113 yX11_isOpen, Cond.instanceMethod yX11_isOpen, Cond.selects RX11 yX11_isOpen yX11_isOpen, Cond.code yX11_isOpen cX11_isOpen 2 (some .boolean), Cond.fieldLink RX11 48 "NineMilesOffModel" "thoughtOpen" "I", Cond.fieldLink RX11 7 "NineMilesOffModel" "kinds" "[I", Cond.fieldLink RX11 96 "NineMilesOffModel" "winter" "I", Cond.fieldLink RX11 13 "NineMilesOffModel" "figures" "[I", Cond.methodLink RX11 226 yX11_isOff, Cond.instanceMethod yX11_isOff, Cond.selects RX11 yX11_isOff yX11_isOff, Cond.code yX11_isOff cX11_isOff 3 (some .boolean), Cond.fieldLink RX11 16 "NineMilesOffModel" "nearest" "I", Cond.fieldLink RX11 20 "NineMilesOffModel" "farthest" "I", Cond.methodLink RX11 106 yX11_farOf]
def wsX11_way_r3 : List Cond := [Cond.instanceMethod yX11_farOf, Cond.selects RX11 yX11_farOf yX11_farOf, Cond.code yX11_farOf cX11_farOf 3 (some .int), Cond.methodLink RX11 99 yX11_plainly, Cond.static yX11_plainly, Cond.code yX11_plainly cX11_plainly 1 (some .int), Cond.methodLink RX11 103 yX11_heightOf, Cond.instanceMethod yX11_heightOf, Cond.selects RX11 yX11_heightOf yX11_heightOf, Cond.code yX11_heightOf cX11_heightOf 2 (some .int), Cond.methodLink RX11 121 yX11_goneTo, Cond.instanceMethod yX11_goneTo, Cond.selects RX11 yX11_goneTo yX11_goneTo, Cond.code yX11_goneTo cX11_goneTo 4 (some .int), Cond.methodLink RX11 110 yX11_beside, Cond.static yX11_beside, Cond.code yX11_beside cX11_beside 2 (some .int)]
def wsX11_way : List Cond := .code yX11_way cX11_way 14 (some .int) :: ((wsX11_way_r1 ++ (wsX11_way_r2 ++ wsX11_way_r3)) ++ wsX110)
def wsX11_hinders_r1 : List Cond := [Cond.fieldLink RX11 87 "NineMilesOffModel" "thrown" "I", Cond.fieldLink RX11 48 "NineMilesOffModel" "thoughtOpen" "I", Cond.methodLink RX11 250 yX11_wrongTwo, Cond.instanceMethod yX11_wrongTwo, Cond.selects RX11 yX11_wrongTwo yX11_wrongTwo, Cond.initialized RX11, Cond.code yX11_wrongTwo cX11_wrongTwo 3 (some .int), Cond.methodLink RX11 196 yX11_isCell, Cond.static yX11_isCell, Cond.code yX11_isCell cX11_isCell 2 (some .boolean), Cond.constantLong RX11 90 (35), Cond.methodLink RX11 92 yX11_in, Cond.static yX11_in, Cond.code yX11_in cX11_in 6 (some .boolean), Cond.methodLink RX11 243 yX11_areBoth, Cond.instanceMethod yX11_areBoth, Cond.selects RX11 yX11_areBoth yX11_areBoth, Cond.code yX11_areBoth cX11_areBoth 1 (some .boolean), Cond.fieldLink RX11 23 "NineMilesOffModel" "his" "I", Cond.fieldLink RX11 26 "NineMilesOffModel" "hers" "I", Cond.methodLink RX11 253 yX11_seeDays, Cond.instanceMethod yX11_seeDays, Cond.selects RX11 yX11_seeDays yX11_seeDays, Cond.code yX11_seeDays cX11_seeDays 4 (some .int)]
def wsX11_hinders_r2 : List Cond := [Cond.fieldLink RX11 69 "NineMilesOffModel" "days" "[I", Cond.methodLink RX11 247 yX11_layDaysFrom, Cond.instanceMethod yX11_layDaysFrom, Cond.selects RX11 yX11_layDaysFrom yX11_layDaysFrom, Cond.code yX11_layDaysFrom cX11_layDaysFrom 8 none, Cond.fieldLink RX11 72 "NineMilesOffModel" "queue" "[I", Cond.methodLink RX11 229 yX11_isPair, Cond.instanceMethod yX11_isPair, Cond.selects RX11 yX11_isPair yX11_isPair, Cond.code yX11_isPair cX11_isPair 3 (some .boolean), Cond.methodLink RX11 113 yX11_isOpen, Cond.instanceMethod yX11_isOpen, Cond.selects RX11 yX11_isOpen yX11_isOpen, Cond.code yX11_isOpen cX11_isOpen 2 (some .boolean), Cond.fieldLink RX11 7 "NineMilesOffModel" "kinds" "[I", Cond.fieldLink RX11 96 "NineMilesOffModel" "winter" "I", Cond.fieldLink RX11 13 "NineMilesOffModel" "figures" "[I", Cond.methodLink RX11 226 yX11_isOff, Cond.instanceMethod yX11_isOff, Cond.selects RX11 yX11_isOff yX11_isOff, Cond.code yX11_isOff cX11_isOff 3 (some .boolean), Cond.fieldLink RX11 16 "NineMilesOffModel" "nearest" "I", Cond.fieldLink RX11 20 "NineMilesOffModel" "farthest" "I", Cond.methodLink RX11 106 yX11_farOf]
def wsX11_hinders_r3 : List Cond := [Cond.instanceMethod yX11_farOf, Cond.selects RX11 yX11_farOf yX11_farOf, Cond.code yX11_farOf cX11_farOf 3 (some .int), Cond.methodLink RX11 99 yX11_plainly, Cond.static yX11_plainly, Cond.code yX11_plainly cX11_plainly 1 (some .int), Cond.methodLink RX11 103 yX11_heightOf, Cond.instanceMethod yX11_heightOf, Cond.selects RX11 yX11_heightOf yX11_heightOf, Cond.code yX11_heightOf cX11_heightOf 2 (some .int), Cond.methodLink RX11 121 yX11_goneTo, Cond.instanceMethod yX11_goneTo, Cond.selects RX11 yX11_goneTo yX11_goneTo, Cond.code yX11_goneTo cX11_goneTo 4 (some .int), Cond.methodLink RX11 110 yX11_beside, Cond.static yX11_beside, Cond.code yX11_beside cX11_beside 2 (some .int)]
def wsX11_hinders : List Cond := .code yX11_hinders cX11_hinders 7 (some .int) :: ((wsX11_hinders_r1 ++ (wsX11_hinders_r2 ++ wsX11_hinders_r3)) ++ wsX110)
def wsX11_needs_r1 : List Cond := [Cond.fieldLink RX11 87 "NineMilesOffModel" "thrown" "I", Cond.fieldLink RX11 20 "NineMilesOffModel" "farthest" "I", Cond.methodLink RX11 250 yX11_wrongTwo, Cond.instanceMethod yX11_wrongTwo, Cond.selects RX11 yX11_wrongTwo yX11_wrongTwo, Cond.initialized RX11, Cond.code yX11_wrongTwo cX11_wrongTwo 3 (some .int), Cond.methodLink RX11 196 yX11_isCell, Cond.static yX11_isCell, Cond.code yX11_isCell cX11_isCell 2 (some .boolean), Cond.constantLong RX11 90 (35), Cond.methodLink RX11 92 yX11_in, Cond.static yX11_in, Cond.code yX11_in cX11_in 6 (some .boolean), Cond.methodLink RX11 243 yX11_areBoth, Cond.instanceMethod yX11_areBoth, Cond.selects RX11 yX11_areBoth yX11_areBoth, Cond.code yX11_areBoth cX11_areBoth 1 (some .boolean), Cond.fieldLink RX11 23 "NineMilesOffModel" "his" "I", Cond.fieldLink RX11 26 "NineMilesOffModel" "hers" "I", Cond.methodLink RX11 253 yX11_seeDays, Cond.instanceMethod yX11_seeDays, Cond.selects RX11 yX11_seeDays yX11_seeDays, Cond.code yX11_seeDays cX11_seeDays 4 (some .int)]
def wsX11_needs_r2 : List Cond := [Cond.fieldLink RX11 69 "NineMilesOffModel" "days" "[I", Cond.methodLink RX11 247 yX11_layDaysFrom, Cond.instanceMethod yX11_layDaysFrom, Cond.selects RX11 yX11_layDaysFrom yX11_layDaysFrom, Cond.code yX11_layDaysFrom cX11_layDaysFrom 8 none, Cond.fieldLink RX11 72 "NineMilesOffModel" "queue" "[I", Cond.methodLink RX11 229 yX11_isPair, Cond.instanceMethod yX11_isPair, Cond.selects RX11 yX11_isPair yX11_isPair, Cond.code yX11_isPair cX11_isPair 3 (some .boolean), Cond.methodLink RX11 113 yX11_isOpen, Cond.instanceMethod yX11_isOpen, Cond.selects RX11 yX11_isOpen yX11_isOpen, Cond.code yX11_isOpen cX11_isOpen 2 (some .boolean), Cond.fieldLink RX11 48 "NineMilesOffModel" "thoughtOpen" "I", Cond.fieldLink RX11 7 "NineMilesOffModel" "kinds" "[I", Cond.fieldLink RX11 96 "NineMilesOffModel" "winter" "I", Cond.fieldLink RX11 13 "NineMilesOffModel" "figures" "[I", Cond.methodLink RX11 226 yX11_isOff, Cond.instanceMethod yX11_isOff, Cond.selects RX11 yX11_isOff yX11_isOff, Cond.code yX11_isOff cX11_isOff 3 (some .boolean), Cond.fieldLink RX11 16 "NineMilesOffModel" "nearest" "I", Cond.methodLink RX11 106 yX11_farOf]
def wsX11_needs_r3 : List Cond := [Cond.instanceMethod yX11_farOf, Cond.selects RX11 yX11_farOf yX11_farOf, Cond.code yX11_farOf cX11_farOf 3 (some .int), Cond.methodLink RX11 99 yX11_plainly, Cond.static yX11_plainly, Cond.code yX11_plainly cX11_plainly 1 (some .int), Cond.methodLink RX11 103 yX11_heightOf, Cond.instanceMethod yX11_heightOf, Cond.selects RX11 yX11_heightOf yX11_heightOf, Cond.code yX11_heightOf cX11_heightOf 2 (some .int), Cond.methodLink RX11 121 yX11_goneTo, Cond.instanceMethod yX11_goneTo, Cond.selects RX11 yX11_goneTo yX11_goneTo, Cond.code yX11_goneTo cX11_goneTo 4 (some .int), Cond.methodLink RX11 110 yX11_beside, Cond.static yX11_beside, Cond.code yX11_beside cX11_beside 2 (some .int)]
def wsX11_needs : List Cond := .code yX11_needs cX11_needs 5 (some .int) :: ((wsX11_needs_r1 ++ (wsX11_needs_r2 ++ wsX11_needs_r3)) ++ wsX110)
def wsX11_within_r1 : List Cond := [Cond.fieldLink RX11 87 "NineMilesOffModel" "thrown" "I", Cond.constantLong RX11 256 (40), Cond.fieldLink RX11 23 "NineMilesOffModel" "his" "I", Cond.fieldLink RX11 26 "NineMilesOffModel" "hers" "I", Cond.fieldLink RX11 69 "NineMilesOffModel" "days" "[I", Cond.methodLink RX11 92 yX11_in, Cond.static yX11_in, Cond.initialized RX11, Cond.code yX11_in cX11_in 6 (some .boolean), Cond.methodLink RX11 243 yX11_areBoth, Cond.instanceMethod yX11_areBoth, Cond.selects RX11 yX11_areBoth yX11_areBoth, Cond.code yX11_areBoth cX11_areBoth 1 (some .boolean), Cond.methodLink RX11 247 yX11_layDaysFrom, Cond.instanceMethod yX11_layDaysFrom, Cond.selects RX11 yX11_layDaysFrom yX11_layDaysFrom, Cond.code yX11_layDaysFrom cX11_layDaysFrom 8 none, Cond.fieldLink RX11 72 "NineMilesOffModel" "queue" "[I", Cond.methodLink RX11 229 yX11_isPair, Cond.instanceMethod yX11_isPair, Cond.selects RX11 yX11_isPair yX11_isPair, Cond.code yX11_isPair cX11_isPair 3 (some .boolean), Cond.methodLink RX11 113 yX11_isOpen, Cond.instanceMethod yX11_isOpen]
def wsX11_within_r2 : List Cond := [Cond.selects RX11 yX11_isOpen yX11_isOpen, Cond.code yX11_isOpen cX11_isOpen 2 (some .boolean), Cond.fieldLink RX11 48 "NineMilesOffModel" "thoughtOpen" "I", Cond.fieldLink RX11 7 "NineMilesOffModel" "kinds" "[I", Cond.fieldLink RX11 96 "NineMilesOffModel" "winter" "I", Cond.fieldLink RX11 13 "NineMilesOffModel" "figures" "[I", Cond.methodLink RX11 226 yX11_isOff, Cond.instanceMethod yX11_isOff, Cond.selects RX11 yX11_isOff yX11_isOff, Cond.code yX11_isOff cX11_isOff 3 (some .boolean), Cond.fieldLink RX11 16 "NineMilesOffModel" "nearest" "I", Cond.fieldLink RX11 20 "NineMilesOffModel" "farthest" "I", Cond.methodLink RX11 106 yX11_farOf, Cond.instanceMethod yX11_farOf, Cond.selects RX11 yX11_farOf yX11_farOf, Cond.code yX11_farOf cX11_farOf 3 (some .int), Cond.methodLink RX11 99 yX11_plainly, Cond.static yX11_plainly, Cond.code yX11_plainly cX11_plainly 1 (some .int), Cond.methodLink RX11 103 yX11_heightOf, Cond.instanceMethod yX11_heightOf, Cond.selects RX11 yX11_heightOf yX11_heightOf, Cond.code yX11_heightOf cX11_heightOf 2 (some .int), Cond.methodLink RX11 121 yX11_goneTo]
def wsX11_within_r3 : List Cond := [Cond.instanceMethod yX11_goneTo, Cond.selects RX11 yX11_goneTo yX11_goneTo, Cond.code yX11_goneTo cX11_goneTo 4 (some .int), Cond.methodLink RX11 110 yX11_beside, Cond.static yX11_beside, Cond.code yX11_beside cX11_beside 2 (some .int)]
def wsX11_within : List Cond := .code yX11_within cX11_within 4 (some .int) :: ((wsX11_within_r1 ++ (wsX11_within_r2 ++ wsX11_within_r3)) ++ wsX110)
def wsX11_layWays_r1 : List Cond := [Cond.fieldLink RX11 75 "NineMilesOffModel" "waysTo" "[J", Cond.fieldLink RX11 23 "NineMilesOffModel" "his" "I", Cond.fieldLink RX11 26 "NineMilesOffModel" "hers" "I", Cond.fieldLink RX11 78 "NineMilesOffModel" "waysThen" "[J", Cond.methodLink RX11 229 yX11_isPair, Cond.instanceMethod yX11_isPair, Cond.selects RX11 yX11_isPair yX11_isPair, Cond.initialized RX11, Cond.code yX11_isPair cX11_isPair 3 (some .boolean), Cond.methodLink RX11 113 yX11_isOpen, Cond.instanceMethod yX11_isOpen, Cond.selects RX11 yX11_isOpen yX11_isOpen, Cond.code yX11_isOpen cX11_isOpen 2 (some .boolean), Cond.fieldLink RX11 48 "NineMilesOffModel" "thoughtOpen" "I", Cond.fieldLink RX11 7 "NineMilesOffModel" "kinds" "[I", Cond.fieldLink RX11 96 "NineMilesOffModel" "winter" "I", Cond.fieldLink RX11 13 "NineMilesOffModel" "figures" "[I", Cond.methodLink RX11 226 yX11_isOff, Cond.instanceMethod yX11_isOff, Cond.selects RX11 yX11_isOff yX11_isOff, Cond.code yX11_isOff cX11_isOff 3 (some .boolean), Cond.fieldLink RX11 16 "NineMilesOffModel" "nearest" "I", Cond.fieldLink RX11 20 "NineMilesOffModel" "farthest" "I", Cond.methodLink RX11 106 yX11_farOf]
def wsX11_layWays_r2 : List Cond := [Cond.instanceMethod yX11_farOf, Cond.selects RX11 yX11_farOf yX11_farOf, Cond.code yX11_farOf cX11_farOf 3 (some .int), Cond.methodLink RX11 99 yX11_plainly, Cond.static yX11_plainly, Cond.code yX11_plainly cX11_plainly 1 (some .int), Cond.methodLink RX11 103 yX11_heightOf, Cond.instanceMethod yX11_heightOf, Cond.selects RX11 yX11_heightOf yX11_heightOf, Cond.code yX11_heightOf cX11_heightOf 2 (some .int), Cond.methodLink RX11 121 yX11_goneTo, Cond.instanceMethod yX11_goneTo, Cond.selects RX11 yX11_goneTo yX11_goneTo, Cond.code yX11_goneTo cX11_goneTo 4 (some .int), Cond.methodLink RX11 110 yX11_beside, Cond.static yX11_beside, Cond.code yX11_beside cX11_beside 2 (some .int)]
def wsX11_layWays : List Cond := .code yX11_layWays cX11_layWays 7 none :: ((wsX11_layWays_r1 ++ wsX11_layWays_r2) ++ wsX110)
def wsX11_wrongWays : List Cond := .code yX11_wrongWays cX11_wrongWays 2 (some .int) :: ([.constantLong RX11 258 (10), .methodLink RX11 92 yX11_in, .static yX11_in, .initialized RX11, .code yX11_in cX11_in 6 (some .boolean), .methodLink RX11 243 yX11_areBoth, .instanceMethod yX11_areBoth, .selects RX11 yX11_areBoth yX11_areBoth, .code yX11_areBoth cX11_areBoth 1 (some .boolean), .fieldLink RX11 23 "NineMilesOffModel" "his" "I", .fieldLink RX11 26 "NineMilesOffModel" "hers" "I"] ++ wsX110)
def wsX11_ways_r1 : List Cond := [Cond.fieldLink RX11 87 "NineMilesOffModel" "thrown" "I", Cond.constant RX11 263 (1000000000), Cond.fieldLink RX11 75 "NineMilesOffModel" "waysTo" "[J", Cond.methodLink RX11 260 yX11_wrongWays, Cond.instanceMethod yX11_wrongWays, Cond.selects RX11 yX11_wrongWays yX11_wrongWays, Cond.initialized RX11, Cond.code yX11_wrongWays cX11_wrongWays 2 (some .int), Cond.constantLong RX11 258 (10), Cond.methodLink RX11 92 yX11_in, Cond.static yX11_in, Cond.code yX11_in cX11_in 6 (some .boolean), Cond.methodLink RX11 243 yX11_areBoth, Cond.instanceMethod yX11_areBoth, Cond.selects RX11 yX11_areBoth yX11_areBoth, Cond.code yX11_areBoth cX11_areBoth 1 (some .boolean), Cond.fieldLink RX11 23 "NineMilesOffModel" "his" "I", Cond.fieldLink RX11 26 "NineMilesOffModel" "hers" "I", Cond.methodLink RX11 264 yX11_layWays, Cond.instanceMethod yX11_layWays, Cond.selects RX11 yX11_layWays yX11_layWays, Cond.code yX11_layWays cX11_layWays 7 none, Cond.fieldLink RX11 78 "NineMilesOffModel" "waysThen" "[J", Cond.methodLink RX11 229 yX11_isPair]
def wsX11_ways_r2 : List Cond := [Cond.instanceMethod yX11_isPair, Cond.selects RX11 yX11_isPair yX11_isPair, Cond.code yX11_isPair cX11_isPair 3 (some .boolean), Cond.methodLink RX11 113 yX11_isOpen, Cond.instanceMethod yX11_isOpen, Cond.selects RX11 yX11_isOpen yX11_isOpen, Cond.code yX11_isOpen cX11_isOpen 2 (some .boolean), Cond.fieldLink RX11 48 "NineMilesOffModel" "thoughtOpen" "I", Cond.fieldLink RX11 7 "NineMilesOffModel" "kinds" "[I", Cond.fieldLink RX11 96 "NineMilesOffModel" "winter" "I", Cond.fieldLink RX11 13 "NineMilesOffModel" "figures" "[I", Cond.methodLink RX11 226 yX11_isOff, Cond.instanceMethod yX11_isOff, Cond.selects RX11 yX11_isOff yX11_isOff, Cond.code yX11_isOff cX11_isOff 3 (some .boolean), Cond.fieldLink RX11 16 "NineMilesOffModel" "nearest" "I", Cond.fieldLink RX11 20 "NineMilesOffModel" "farthest" "I", Cond.methodLink RX11 106 yX11_farOf, Cond.instanceMethod yX11_farOf, Cond.selects RX11 yX11_farOf yX11_farOf, Cond.code yX11_farOf cX11_farOf 3 (some .int), Cond.methodLink RX11 99 yX11_plainly, Cond.static yX11_plainly, Cond.code yX11_plainly cX11_plainly 1 (some .int)]
def wsX11_ways_r3 : List Cond := [Cond.methodLink RX11 103 yX11_heightOf, Cond.instanceMethod yX11_heightOf, Cond.selects RX11 yX11_heightOf yX11_heightOf, Cond.code yX11_heightOf cX11_heightOf 2 (some .int), Cond.methodLink RX11 121 yX11_goneTo, Cond.instanceMethod yX11_goneTo, Cond.selects RX11 yX11_goneTo yX11_goneTo, Cond.code yX11_goneTo cX11_goneTo 4 (some .int), Cond.methodLink RX11 110 yX11_beside, Cond.static yX11_beside, Cond.code yX11_beside cX11_beside 2 (some .int)]
def wsX11_ways : List Cond := .code yX11_ways cX11_ways 5 (some .long) :: ((wsX11_ways_r1 ++ (wsX11_ways_r2 ++ wsX11_ways_r3)) ++ wsX110)
def wsX11_rounds_r1 : List Cond := [Cond.fieldLink RX11 87 "NineMilesOffModel" "thrown" "I", Cond.constant RX11 263 (1000000000), Cond.fieldLink RX11 75 "NineMilesOffModel" "waysTo" "[J", Cond.fieldLink RX11 23 "NineMilesOffModel" "his" "I", Cond.fieldLink RX11 26 "NineMilesOffModel" "hers" "I", Cond.methodLink RX11 260 yX11_wrongWays, Cond.instanceMethod yX11_wrongWays, Cond.selects RX11 yX11_wrongWays yX11_wrongWays, Cond.initialized RX11, Cond.code yX11_wrongWays cX11_wrongWays 2 (some .int), Cond.constantLong RX11 258 (10), Cond.methodLink RX11 92 yX11_in, Cond.static yX11_in, Cond.code yX11_in cX11_in 6 (some .boolean), Cond.methodLink RX11 243 yX11_areBoth, Cond.instanceMethod yX11_areBoth, Cond.selects RX11 yX11_areBoth yX11_areBoth, Cond.code yX11_areBoth cX11_areBoth 1 (some .boolean), Cond.methodLink RX11 264 yX11_layWays, Cond.instanceMethod yX11_layWays, Cond.selects RX11 yX11_layWays yX11_layWays, Cond.code yX11_layWays cX11_layWays 7 none, Cond.fieldLink RX11 78 "NineMilesOffModel" "waysThen" "[J", Cond.methodLink RX11 229 yX11_isPair]
def wsX11_rounds_r2 : List Cond := [Cond.instanceMethod yX11_isPair, Cond.selects RX11 yX11_isPair yX11_isPair, Cond.code yX11_isPair cX11_isPair 3 (some .boolean), Cond.methodLink RX11 113 yX11_isOpen, Cond.instanceMethod yX11_isOpen, Cond.selects RX11 yX11_isOpen yX11_isOpen, Cond.code yX11_isOpen cX11_isOpen 2 (some .boolean), Cond.fieldLink RX11 48 "NineMilesOffModel" "thoughtOpen" "I", Cond.fieldLink RX11 7 "NineMilesOffModel" "kinds" "[I", Cond.fieldLink RX11 96 "NineMilesOffModel" "winter" "I", Cond.fieldLink RX11 13 "NineMilesOffModel" "figures" "[I", Cond.methodLink RX11 226 yX11_isOff, Cond.instanceMethod yX11_isOff, Cond.selects RX11 yX11_isOff yX11_isOff, Cond.code yX11_isOff cX11_isOff 3 (some .boolean), Cond.fieldLink RX11 16 "NineMilesOffModel" "nearest" "I", Cond.fieldLink RX11 20 "NineMilesOffModel" "farthest" "I", Cond.methodLink RX11 106 yX11_farOf, Cond.instanceMethod yX11_farOf, Cond.selects RX11 yX11_farOf yX11_farOf, Cond.code yX11_farOf cX11_farOf 3 (some .int), Cond.methodLink RX11 99 yX11_plainly, Cond.static yX11_plainly, Cond.code yX11_plainly cX11_plainly 1 (some .int)]
def wsX11_rounds_r3 : List Cond := [Cond.methodLink RX11 103 yX11_heightOf, Cond.instanceMethod yX11_heightOf, Cond.selects RX11 yX11_heightOf yX11_heightOf, Cond.code yX11_heightOf cX11_heightOf 2 (some .int), Cond.methodLink RX11 121 yX11_goneTo, Cond.instanceMethod yX11_goneTo, Cond.selects RX11 yX11_goneTo yX11_goneTo, Cond.code yX11_goneTo cX11_goneTo 4 (some .int), Cond.methodLink RX11 110 yX11_beside, Cond.static yX11_beside, Cond.code yX11_beside cX11_beside 2 (some .int)]
def wsX11_rounds : List Cond := .code yX11_rounds cX11_rounds 2 (some .long) :: ((wsX11_rounds_r1 ++ (wsX11_rounds_r2 ++ wsX11_rounds_r3)) ++ wsX110)
def wsX11_late_r1 : List Cond := [Cond.fieldLink RX11 87 "NineMilesOffModel" "thrown" "I", Cond.constantLong RX11 267 (8), Cond.fieldLink RX11 23 "NineMilesOffModel" "his" "I", Cond.methodLink RX11 196 yX11_isCell, Cond.static yX11_isCell, Cond.initialized RX11, Cond.code yX11_isCell cX11_isCell 2 (some .boolean), Cond.constantLong RX11 90 (35), Cond.methodLink RX11 92 yX11_in, Cond.static yX11_in, Cond.code yX11_in cX11_in 6 (some .boolean), Cond.methodLink RX11 113 yX11_isOpen, Cond.instanceMethod yX11_isOpen, Cond.selects RX11 yX11_isOpen yX11_isOpen, Cond.code yX11_isOpen cX11_isOpen 2 (some .boolean), Cond.fieldLink RX11 48 "NineMilesOffModel" "thoughtOpen" "I", Cond.fieldLink RX11 7 "NineMilesOffModel" "kinds" "[I", Cond.fieldLink RX11 96 "NineMilesOffModel" "winter" "I", Cond.fieldLink RX11 13 "NineMilesOffModel" "figures" "[I", Cond.methodLink RX11 218 yX11_goOn, Cond.instanceMethod yX11_goOn, Cond.selects RX11 yX11_goOn yX11_goOn, Cond.code yX11_goOn cX11_goOn 8 (some .long), Cond.methodLink RX11 117 yX11_isOn]
def wsX11_late_r2 : List Cond := [Cond.static yX11_isOn, Cond.code yX11_isOn cX11_isOn 3 (some .boolean), Cond.methodLink RX11 121 yX11_goneTo, Cond.instanceMethod yX11_goneTo, Cond.selects RX11 yX11_goneTo yX11_goneTo, Cond.code yX11_goneTo cX11_goneTo 4 (some .int), Cond.methodLink RX11 110 yX11_beside, Cond.static yX11_beside, Cond.code yX11_beside cX11_beside 2 (some .int), Cond.methodLink RX11 226 yX11_isOff, Cond.instanceMethod yX11_isOff, Cond.selects RX11 yX11_isOff yX11_isOff, Cond.code yX11_isOff cX11_isOff 3 (some .boolean), Cond.fieldLink RX11 16 "NineMilesOffModel" "nearest" "I", Cond.fieldLink RX11 20 "NineMilesOffModel" "farthest" "I", Cond.methodLink RX11 106 yX11_farOf, Cond.instanceMethod yX11_farOf, Cond.selects RX11 yX11_farOf yX11_farOf, Cond.code yX11_farOf cX11_farOf 3 (some .int), Cond.methodLink RX11 99 yX11_plainly, Cond.static yX11_plainly, Cond.code yX11_plainly cX11_plainly 1 (some .int), Cond.methodLink RX11 103 yX11_heightOf, Cond.instanceMethod yX11_heightOf]
def wsX11_late_r3 : List Cond := [Cond.selects RX11 yX11_heightOf yX11_heightOf, Cond.code yX11_heightOf cX11_heightOf 2 (some .int)]
def wsX11_late : List Cond := .code yX11_late cX11_late 10 (some .int) :: ((wsX11_late_r1 ++ (wsX11_late_r2 ++ wsX11_late_r3)) ++ wsX110)
def wsX11_wrongCells : List Cond := .code yX11_wrongCells cX11_wrongCells 4 (some .int) :: ([.fieldLink RX11 41 "NineMilesOffModel" "rowMany" "[I", .fieldLink RX11 44 "NineMilesOffModel" "rows" "[J", .methodLink RX11 168 yX11_wrongRow, .instanceMethod yX11_wrongRow, .selects RX11 yX11_wrongRow yX11_wrongRow, .initialized RX11, .code yX11_wrongRow cX11_wrongRow 2 (some .int), .constantLong RX11 203 (7), .fieldLink RX11 29 "NineMilesOffModel" "holdsWhat" "[I", .methodLink RX11 92 yX11_in, .static yX11_in, .code yX11_in cX11_in 6 (some .boolean), .methodLink RX11 196 yX11_isCell, .static yX11_isCell, .code yX11_isCell cX11_isCell 2 (some .boolean), .constantLong RX11 90 (35)] ++ wsX110)
def wsX11_notOff : List Cond := .code yX11_notOff cX11_notOff 8 (some .long) :: ([.fieldLink RX11 44 "NineMilesOffModel" "rows" "[J", .methodLink RX11 117 yX11_isOn, .static yX11_isOn, .initialized RX11, .code yX11_isOn cX11_isOn 3 (some .boolean), .methodLink RX11 226 yX11_isOff, .instanceMethod yX11_isOff, .selects RX11 yX11_isOff yX11_isOff, .code yX11_isOff cX11_isOff 3 (some .boolean), .fieldLink RX11 16 "NineMilesOffModel" "nearest" "I", .fieldLink RX11 20 "NineMilesOffModel" "farthest" "I", .methodLink RX11 106 yX11_farOf, .instanceMethod yX11_farOf, .selects RX11 yX11_farOf yX11_farOf, .code yX11_farOf cX11_farOf 3 (some .int), .methodLink RX11 99 yX11_plainly, .static yX11_plainly, .code yX11_plainly cX11_plainly 1 (some .int), .methodLink RX11 103 yX11_heightOf, .instanceMethod yX11_heightOf, .selects RX11 yX11_heightOf yX11_heightOf, .code yX11_heightOf cX11_heightOf 2 (some .int), .fieldLink RX11 7 "NineMilesOffModel" "kinds" "[I", .fieldLink RX11 13 "NineMilesOffModel" "figures" "[I"] ++ wsX110)
def wsX11_toTheLast_r1 : List Cond := [Cond.fieldLink RX11 41 "NineMilesOffModel" "rowMany" "[I", Cond.methodLink RX11 218 yX11_goOn, Cond.instanceMethod yX11_goOn, Cond.selects RX11 yX11_goOn yX11_goOn, Cond.initialized RX11, Cond.code yX11_goOn cX11_goOn 8 (some .long), Cond.methodLink RX11 117 yX11_isOn, Cond.static yX11_isOn, Cond.code yX11_isOn cX11_isOn 3 (some .boolean), Cond.methodLink RX11 121 yX11_goneTo, Cond.instanceMethod yX11_goneTo, Cond.selects RX11 yX11_goneTo yX11_goneTo, Cond.code yX11_goneTo cX11_goneTo 4 (some .int), Cond.methodLink RX11 110 yX11_beside, Cond.static yX11_beside, Cond.code yX11_beside cX11_beside 2 (some .int), Cond.methodLink RX11 113 yX11_isOpen, Cond.instanceMethod yX11_isOpen, Cond.selects RX11 yX11_isOpen yX11_isOpen, Cond.code yX11_isOpen cX11_isOpen 2 (some .boolean), Cond.fieldLink RX11 48 "NineMilesOffModel" "thoughtOpen" "I", Cond.fieldLink RX11 7 "NineMilesOffModel" "kinds" "[I", Cond.fieldLink RX11 96 "NineMilesOffModel" "winter" "I", Cond.fieldLink RX11 13 "NineMilesOffModel" "figures" "[I"]
def wsX11_toTheLast_r2 : List Cond := [Cond.methodLink RX11 269 yX11_notOff, Cond.instanceMethod yX11_notOff, Cond.selects RX11 yX11_notOff yX11_notOff, Cond.code yX11_notOff cX11_notOff 8 (some .long), Cond.fieldLink RX11 44 "NineMilesOffModel" "rows" "[J", Cond.methodLink RX11 226 yX11_isOff, Cond.instanceMethod yX11_isOff, Cond.selects RX11 yX11_isOff yX11_isOff, Cond.code yX11_isOff cX11_isOff 3 (some .boolean), Cond.fieldLink RX11 16 "NineMilesOffModel" "nearest" "I", Cond.fieldLink RX11 20 "NineMilesOffModel" "farthest" "I", Cond.methodLink RX11 106 yX11_farOf, Cond.instanceMethod yX11_farOf, Cond.selects RX11 yX11_farOf yX11_farOf, Cond.code yX11_farOf cX11_farOf 3 (some .int), Cond.methodLink RX11 99 yX11_plainly, Cond.static yX11_plainly, Cond.code yX11_plainly cX11_plainly 1 (some .int), Cond.methodLink RX11 103 yX11_heightOf, Cond.instanceMethod yX11_heightOf, Cond.selects RX11 yX11_heightOf yX11_heightOf, Cond.code yX11_heightOf cX11_heightOf 2 (some .int)]
def wsX11_toTheLast : List Cond := .code yX11_toTheLast cX11_toTheLast 8 (some .long) :: ((wsX11_toTheLast_r1 ++ wsX11_toTheLast_r2) ++ wsX110)
def wsX11_hisWay_r1 : List Cond := [Cond.fieldLink RX11 87 "NineMilesOffModel" "thrown" "I", Cond.constant RX11 263 (1000000000), Cond.methodLink RX11 92 yX11_in, Cond.static yX11_in, Cond.initialized RX11, Cond.code yX11_in cX11_in 6 (some .boolean), Cond.methodLink RX11 273 yX11_wrongCells, Cond.instanceMethod yX11_wrongCells, Cond.selects RX11 yX11_wrongCells yX11_wrongCells, Cond.code yX11_wrongCells cX11_wrongCells 4 (some .int), Cond.fieldLink RX11 41 "NineMilesOffModel" "rowMany" "[I", Cond.fieldLink RX11 44 "NineMilesOffModel" "rows" "[J", Cond.methodLink RX11 168 yX11_wrongRow, Cond.instanceMethod yX11_wrongRow, Cond.selects RX11 yX11_wrongRow yX11_wrongRow, Cond.code yX11_wrongRow cX11_wrongRow 2 (some .int), Cond.constantLong RX11 203 (7), Cond.fieldLink RX11 29 "NineMilesOffModel" "holdsWhat" "[I", Cond.methodLink RX11 196 yX11_isCell, Cond.static yX11_isCell, Cond.code yX11_isCell cX11_isCell 2 (some .boolean), Cond.constantLong RX11 90 (35), Cond.methodLink RX11 214 yX11_openCells, Cond.instanceMethod yX11_openCells]
def wsX11_hisWay_r2 : List Cond := [Cond.selects RX11 yX11_openCells yX11_openCells, Cond.code yX11_openCells cX11_openCells 4 (some .long), Cond.methodLink RX11 113 yX11_isOpen, Cond.instanceMethod yX11_isOpen, Cond.selects RX11 yX11_isOpen yX11_isOpen, Cond.code yX11_isOpen cX11_isOpen 2 (some .boolean), Cond.fieldLink RX11 48 "NineMilesOffModel" "thoughtOpen" "I", Cond.fieldLink RX11 7 "NineMilesOffModel" "kinds" "[I", Cond.fieldLink RX11 96 "NineMilesOffModel" "winter" "I", Cond.fieldLink RX11 13 "NineMilesOffModel" "figures" "[I", Cond.methodLink RX11 269 yX11_notOff, Cond.instanceMethod yX11_notOff, Cond.selects RX11 yX11_notOff yX11_notOff, Cond.code yX11_notOff cX11_notOff 8 (some .long), Cond.methodLink RX11 117 yX11_isOn, Cond.static yX11_isOn, Cond.code yX11_isOn cX11_isOn 3 (some .boolean), Cond.methodLink RX11 226 yX11_isOff, Cond.instanceMethod yX11_isOff, Cond.selects RX11 yX11_isOff yX11_isOff, Cond.code yX11_isOff cX11_isOff 3 (some .boolean), Cond.fieldLink RX11 16 "NineMilesOffModel" "nearest" "I", Cond.fieldLink RX11 20 "NineMilesOffModel" "farthest" "I", Cond.methodLink RX11 106 yX11_farOf]
def wsX11_hisWay_r3 : List Cond := [Cond.instanceMethod yX11_farOf, Cond.selects RX11 yX11_farOf yX11_farOf, Cond.code yX11_farOf cX11_farOf 3 (some .int), Cond.methodLink RX11 99 yX11_plainly, Cond.static yX11_plainly, Cond.code yX11_plainly cX11_plainly 1 (some .int), Cond.methodLink RX11 103 yX11_heightOf, Cond.instanceMethod yX11_heightOf, Cond.selects RX11 yX11_heightOf yX11_heightOf, Cond.code yX11_heightOf cX11_heightOf 2 (some .int), Cond.methodLink RX11 276 yX11_toTheLast, Cond.instanceMethod yX11_toTheLast, Cond.selects RX11 yX11_toTheLast yX11_toTheLast, Cond.code yX11_toTheLast cX11_toTheLast 8 (some .long), Cond.methodLink RX11 218 yX11_goOn, Cond.instanceMethod yX11_goOn, Cond.selects RX11 yX11_goOn yX11_goOn, Cond.code yX11_goOn cX11_goOn 8 (some .long), Cond.methodLink RX11 121 yX11_goneTo, Cond.instanceMethod yX11_goneTo, Cond.selects RX11 yX11_goneTo yX11_goneTo, Cond.code yX11_goneTo cX11_goneTo 4 (some .int), Cond.methodLink RX11 110 yX11_beside, Cond.static yX11_beside]
def wsX11_hisWay_r4 : List Cond := [Cond.code yX11_beside cX11_beside 2 (some .int), Cond.methodLink RX11 239 yX11_onesOf, Cond.static yX11_onesOf, Cond.code yX11_onesOf cX11_onesOf 5 (some .int)]
def wsX11_hisWay : List Cond := .code yX11_hisWay cX11_hisWay 6 (some .long) :: ((wsX11_hisWay_r1 ++ (wsX11_hisWay_r2 ++ (wsX11_hisWay_r3 ++ wsX11_hisWay_r4))) ++ wsX110)
def wsX11_letter_r1 : List Cond := [Cond.fieldLink RX11 87 "NineMilesOffModel" "thrown" "I", Cond.fieldLink RX11 41 "NineMilesOffModel" "rowMany" "[I", Cond.methodLink RX11 273 yX11_wrongCells, Cond.instanceMethod yX11_wrongCells, Cond.selects RX11 yX11_wrongCells yX11_wrongCells, Cond.initialized RX11, Cond.code yX11_wrongCells cX11_wrongCells 4 (some .int), Cond.fieldLink RX11 44 "NineMilesOffModel" "rows" "[J", Cond.methodLink RX11 168 yX11_wrongRow, Cond.instanceMethod yX11_wrongRow, Cond.selects RX11 yX11_wrongRow yX11_wrongRow, Cond.code yX11_wrongRow cX11_wrongRow 2 (some .int), Cond.constantLong RX11 203 (7), Cond.fieldLink RX11 29 "NineMilesOffModel" "holdsWhat" "[I", Cond.methodLink RX11 92 yX11_in, Cond.static yX11_in, Cond.code yX11_in cX11_in 6 (some .boolean), Cond.methodLink RX11 196 yX11_isCell, Cond.static yX11_isCell, Cond.code yX11_isCell cX11_isCell 2 (some .boolean), Cond.constantLong RX11 90 (35), Cond.methodLink RX11 214 yX11_openCells, Cond.instanceMethod yX11_openCells, Cond.selects RX11 yX11_openCells yX11_openCells]
def wsX11_letter_r2 : List Cond := [Cond.code yX11_openCells cX11_openCells 4 (some .long), Cond.methodLink RX11 113 yX11_isOpen, Cond.instanceMethod yX11_isOpen, Cond.selects RX11 yX11_isOpen yX11_isOpen, Cond.code yX11_isOpen cX11_isOpen 2 (some .boolean), Cond.fieldLink RX11 48 "NineMilesOffModel" "thoughtOpen" "I", Cond.fieldLink RX11 7 "NineMilesOffModel" "kinds" "[I", Cond.fieldLink RX11 96 "NineMilesOffModel" "winter" "I", Cond.fieldLink RX11 13 "NineMilesOffModel" "figures" "[I", Cond.methodLink RX11 269 yX11_notOff, Cond.instanceMethod yX11_notOff, Cond.selects RX11 yX11_notOff yX11_notOff, Cond.code yX11_notOff cX11_notOff 8 (some .long), Cond.methodLink RX11 117 yX11_isOn, Cond.static yX11_isOn, Cond.code yX11_isOn cX11_isOn 3 (some .boolean), Cond.methodLink RX11 226 yX11_isOff, Cond.instanceMethod yX11_isOff, Cond.selects RX11 yX11_isOff yX11_isOff, Cond.code yX11_isOff cX11_isOff 3 (some .boolean), Cond.fieldLink RX11 16 "NineMilesOffModel" "nearest" "I", Cond.fieldLink RX11 20 "NineMilesOffModel" "farthest" "I", Cond.methodLink RX11 106 yX11_farOf, Cond.instanceMethod yX11_farOf]
def wsX11_letter_r3 : List Cond := [Cond.selects RX11 yX11_farOf yX11_farOf, Cond.code yX11_farOf cX11_farOf 3 (some .int), Cond.methodLink RX11 99 yX11_plainly, Cond.static yX11_plainly, Cond.code yX11_plainly cX11_plainly 1 (some .int), Cond.methodLink RX11 103 yX11_heightOf, Cond.instanceMethod yX11_heightOf, Cond.selects RX11 yX11_heightOf yX11_heightOf, Cond.code yX11_heightOf cX11_heightOf 2 (some .int), Cond.methodLink RX11 218 yX11_goOn, Cond.instanceMethod yX11_goOn, Cond.selects RX11 yX11_goOn yX11_goOn, Cond.code yX11_goOn cX11_goOn 8 (some .long), Cond.methodLink RX11 121 yX11_goneTo, Cond.instanceMethod yX11_goneTo, Cond.selects RX11 yX11_goneTo yX11_goneTo, Cond.code yX11_goneTo cX11_goneTo 4 (some .int), Cond.methodLink RX11 110 yX11_beside, Cond.static yX11_beside, Cond.code yX11_beside cX11_beside 2 (some .int), Cond.methodLink RX11 276 yX11_toTheLast, Cond.instanceMethod yX11_toTheLast, Cond.selects RX11 yX11_toTheLast yX11_toTheLast, Cond.code yX11_toTheLast cX11_toTheLast 8 (some .long)]
def wsX11_letter_r4 : List Cond := [Cond.methodLink RX11 239 yX11_onesOf, Cond.static yX11_onesOf, Cond.code yX11_onesOf cX11_onesOf 5 (some .int)]
def wsX11_letter : List Cond := .code yX11_letter cX11_letter 11 (some .int) :: ((wsX11_letter_r1 ++ (wsX11_letter_r2 ++ (wsX11_letter_r3 ++ wsX11_letter_r4))) ++ wsX110)
def wsX11_third_r1 : List Cond := [Cond.fieldLink RX11 87 "NineMilesOffModel" "thrown" "I", Cond.fieldLink RX11 23 "NineMilesOffModel" "his" "I", Cond.fieldLink RX11 26 "NineMilesOffModel" "hers" "I", Cond.methodLink RX11 92 yX11_in, Cond.static yX11_in, Cond.initialized RX11, Cond.code yX11_in cX11_in 6 (some .boolean), Cond.methodLink RX11 243 yX11_areBoth, Cond.instanceMethod yX11_areBoth, Cond.selects RX11 yX11_areBoth yX11_areBoth, Cond.code yX11_areBoth cX11_areBoth 1 (some .boolean), Cond.methodLink RX11 113 yX11_isOpen, Cond.instanceMethod yX11_isOpen, Cond.selects RX11 yX11_isOpen yX11_isOpen, Cond.code yX11_isOpen cX11_isOpen 2 (some .boolean), Cond.fieldLink RX11 48 "NineMilesOffModel" "thoughtOpen" "I", Cond.fieldLink RX11 7 "NineMilesOffModel" "kinds" "[I", Cond.fieldLink RX11 96 "NineMilesOffModel" "winter" "I", Cond.fieldLink RX11 13 "NineMilesOffModel" "figures" "[I", Cond.methodLink RX11 226 yX11_isOff, Cond.instanceMethod yX11_isOff, Cond.selects RX11 yX11_isOff yX11_isOff, Cond.code yX11_isOff cX11_isOff 3 (some .boolean), Cond.fieldLink RX11 16 "NineMilesOffModel" "nearest" "I"]
def wsX11_third_r2 : List Cond := [Cond.fieldLink RX11 20 "NineMilesOffModel" "farthest" "I", Cond.methodLink RX11 106 yX11_farOf, Cond.instanceMethod yX11_farOf, Cond.selects RX11 yX11_farOf yX11_farOf, Cond.code yX11_farOf cX11_farOf 3 (some .int), Cond.methodLink RX11 99 yX11_plainly, Cond.static yX11_plainly, Cond.code yX11_plainly cX11_plainly 1 (some .int), Cond.methodLink RX11 103 yX11_heightOf, Cond.instanceMethod yX11_heightOf, Cond.selects RX11 yX11_heightOf yX11_heightOf, Cond.code yX11_heightOf cX11_heightOf 2 (some .int)]
def wsX11_third : List Cond := .code yX11_third cX11_third 6 (some .int) :: ((wsX11_third_r1 ++ wsX11_third_r2) ++ wsX110)
def wsX11_farBy_r1 : List Cond := [Cond.fieldLink RX11 23 "NineMilesOffModel" "his" "I", Cond.fieldLink RX11 26 "NineMilesOffModel" "hers" "I", Cond.methodLink RX11 121 yX11_goneTo, Cond.instanceMethod yX11_goneTo, Cond.selects RX11 yX11_goneTo yX11_goneTo, Cond.initialized RX11, Cond.code yX11_goneTo cX11_goneTo 4 (some .int), Cond.methodLink RX11 110 yX11_beside, Cond.static yX11_beside, Cond.code yX11_beside cX11_beside 2 (some .int), Cond.methodLink RX11 113 yX11_isOpen, Cond.instanceMethod yX11_isOpen, Cond.selects RX11 yX11_isOpen yX11_isOpen, Cond.code yX11_isOpen cX11_isOpen 2 (some .boolean), Cond.fieldLink RX11 48 "NineMilesOffModel" "thoughtOpen" "I", Cond.fieldLink RX11 7 "NineMilesOffModel" "kinds" "[I", Cond.fieldLink RX11 96 "NineMilesOffModel" "winter" "I", Cond.fieldLink RX11 13 "NineMilesOffModel" "figures" "[I", Cond.methodLink RX11 106 yX11_farOf, Cond.instanceMethod yX11_farOf, Cond.selects RX11 yX11_farOf yX11_farOf, Cond.code yX11_farOf cX11_farOf 3 (some .int), Cond.methodLink RX11 99 yX11_plainly, Cond.static yX11_plainly]
def wsX11_farBy_r2 : List Cond := [Cond.code yX11_plainly cX11_plainly 1 (some .int), Cond.methodLink RX11 103 yX11_heightOf, Cond.instanceMethod yX11_heightOf, Cond.selects RX11 yX11_heightOf yX11_heightOf, Cond.code yX11_heightOf cX11_heightOf 2 (some .int)]
def wsX11_farBy : List Cond := .code yX11_farBy cX11_farBy 5 (some .int) :: ((wsX11_farBy_r1 ++ wsX11_farBy_r2) ++ wsX110)
def wsX11_rests_r1 : List Cond := [Cond.methodLink RX11 279 yX11_farBy, Cond.instanceMethod yX11_farBy, Cond.selects RX11 yX11_farBy yX11_farBy, Cond.initialized RX11, Cond.code yX11_farBy cX11_farBy 5 (some .int), Cond.fieldLink RX11 23 "NineMilesOffModel" "his" "I", Cond.fieldLink RX11 26 "NineMilesOffModel" "hers" "I", Cond.methodLink RX11 121 yX11_goneTo, Cond.instanceMethod yX11_goneTo, Cond.selects RX11 yX11_goneTo yX11_goneTo, Cond.code yX11_goneTo cX11_goneTo 4 (some .int), Cond.methodLink RX11 110 yX11_beside, Cond.static yX11_beside, Cond.code yX11_beside cX11_beside 2 (some .int), Cond.methodLink RX11 113 yX11_isOpen, Cond.instanceMethod yX11_isOpen, Cond.selects RX11 yX11_isOpen yX11_isOpen, Cond.code yX11_isOpen cX11_isOpen 2 (some .boolean), Cond.fieldLink RX11 48 "NineMilesOffModel" "thoughtOpen" "I", Cond.fieldLink RX11 7 "NineMilesOffModel" "kinds" "[I", Cond.fieldLink RX11 96 "NineMilesOffModel" "winter" "I", Cond.fieldLink RX11 13 "NineMilesOffModel" "figures" "[I", Cond.methodLink RX11 106 yX11_farOf, Cond.instanceMethod yX11_farOf]
def wsX11_rests_r2 : List Cond := [Cond.selects RX11 yX11_farOf yX11_farOf, Cond.code yX11_farOf cX11_farOf 3 (some .int), Cond.methodLink RX11 99 yX11_plainly, Cond.static yX11_plainly, Cond.code yX11_plainly cX11_plainly 1 (some .int), Cond.methodLink RX11 103 yX11_heightOf, Cond.instanceMethod yX11_heightOf, Cond.selects RX11 yX11_heightOf yX11_heightOf, Cond.code yX11_heightOf cX11_heightOf 2 (some .int)]
def wsX11_rests : List Cond := .code yX11_rests cX11_rests 8 (some .boolean) :: ((wsX11_rests_r1 ++ wsX11_rests_r2) ++ wsX110)
def wsX11_game_r1 : List Cond := [Cond.fieldLink RX11 87 "NineMilesOffModel" "thrown" "I", Cond.methodLink RX11 92 yX11_in, Cond.static yX11_in, Cond.initialized RX11, Cond.code yX11_in cX11_in 6 (some .boolean), Cond.methodLink RX11 243 yX11_areBoth, Cond.instanceMethod yX11_areBoth, Cond.selects RX11 yX11_areBoth yX11_areBoth, Cond.code yX11_areBoth cX11_areBoth 1 (some .boolean), Cond.fieldLink RX11 23 "NineMilesOffModel" "his" "I", Cond.fieldLink RX11 26 "NineMilesOffModel" "hers" "I", Cond.methodLink RX11 282 yX11_rests, Cond.instanceMethod yX11_rests, Cond.selects RX11 yX11_rests yX11_rests, Cond.code yX11_rests cX11_rests 8 (some .boolean), Cond.methodLink RX11 279 yX11_farBy, Cond.instanceMethod yX11_farBy, Cond.selects RX11 yX11_farBy yX11_farBy, Cond.code yX11_farBy cX11_farBy 5 (some .int), Cond.methodLink RX11 121 yX11_goneTo, Cond.instanceMethod yX11_goneTo, Cond.selects RX11 yX11_goneTo yX11_goneTo, Cond.code yX11_goneTo cX11_goneTo 4 (some .int), Cond.methodLink RX11 110 yX11_beside]
def wsX11_game_r2 : List Cond := [Cond.static yX11_beside, Cond.code yX11_beside cX11_beside 2 (some .int), Cond.methodLink RX11 113 yX11_isOpen, Cond.instanceMethod yX11_isOpen, Cond.selects RX11 yX11_isOpen yX11_isOpen, Cond.code yX11_isOpen cX11_isOpen 2 (some .boolean), Cond.fieldLink RX11 48 "NineMilesOffModel" "thoughtOpen" "I", Cond.fieldLink RX11 7 "NineMilesOffModel" "kinds" "[I", Cond.fieldLink RX11 96 "NineMilesOffModel" "winter" "I", Cond.fieldLink RX11 13 "NineMilesOffModel" "figures" "[I", Cond.methodLink RX11 106 yX11_farOf, Cond.instanceMethod yX11_farOf, Cond.selects RX11 yX11_farOf yX11_farOf, Cond.code yX11_farOf cX11_farOf 3 (some .int), Cond.methodLink RX11 99 yX11_plainly, Cond.static yX11_plainly, Cond.code yX11_plainly cX11_plainly 1 (some .int), Cond.methodLink RX11 103 yX11_heightOf, Cond.instanceMethod yX11_heightOf, Cond.selects RX11 yX11_heightOf yX11_heightOf, Cond.code yX11_heightOf cX11_heightOf 2 (some .int)]
def wsX11_game : List Cond := .code yX11_game cX11_game 7 (some .int) :: ((wsX11_game_r1 ++ wsX11_game_r2) ++ wsX110)
def wsX11_divisor : List Cond := .code yX11_divisor cX11_divisor 10 (some .long) :: ([])
def wsX11_partOf : List Cond := .code yX11_partOf cX11_partOf 7 (some .long) :: ([.methodLink RX11 285 yX11_divisor, .static yX11_divisor, .initialized RX11, .code yX11_divisor cX11_divisor 10 (some .long)])
def wsX11_isWay : List Cond := .code yX11_isWay cX11_isWay 12 (some .boolean) :: ([.methodLink RX11 117 yX11_isOn, .static yX11_isOn, .initialized RX11, .code yX11_isOn cX11_isOn 3 (some .boolean), .methodLink RX11 110 yX11_beside, .static yX11_beside, .code yX11_beside cX11_beside 2 (some .int)])
def wsX11_snow_r1 : List Cond := [Cond.fieldLink RX11 87 "NineMilesOffModel" "thrown" "I", Cond.constantLong RX11 289 (-1000000001), Cond.constantLong RX11 291 (9), Cond.constantLong RX11 293 (-1000000003), Cond.fieldLink RX11 81 "NineMilesOffModel" "unsure" "[I", Cond.constantLong RX11 258 (10), Cond.methodLink RX11 196 yX11_isCell, Cond.static yX11_isCell, Cond.initialized RX11, Cond.code yX11_isCell cX11_isCell 2 (some .boolean), Cond.constantLong RX11 90 (35), Cond.methodLink RX11 92 yX11_in, Cond.static yX11_in, Cond.code yX11_in cX11_in 6 (some .boolean), Cond.methodLink RX11 200 yX11_chanceOf, Cond.instanceMethod yX11_chanceOf, Cond.selects RX11 yX11_chanceOf yX11_chanceOf, Cond.code yX11_chanceOf cX11_chanceOf 2 (some .int), Cond.fieldLink RX11 7 "NineMilesOffModel" "kinds" "[I", Cond.fieldLink RX11 13 "NineMilesOffModel" "figures" "[I", Cond.methodLink RX11 295 yX11_isWay, Cond.static yX11_isWay, Cond.code yX11_isWay cX11_isWay 12 (some .boolean), Cond.methodLink RX11 117 yX11_isOn]
def wsX11_snow_r2 : List Cond := [Cond.static yX11_isOn, Cond.code yX11_isOn cX11_isOn 3 (some .boolean), Cond.methodLink RX11 110 yX11_beside, Cond.static yX11_beside, Cond.code yX11_beside cX11_beside 2 (some .int), Cond.methodLink RX11 299 yX11_partOf, Cond.static yX11_partOf, Cond.code yX11_partOf cX11_partOf 7 (some .long), Cond.methodLink RX11 285 yX11_divisor, Cond.static yX11_divisor, Cond.code yX11_divisor cX11_divisor 10 (some .long)]
def wsX11_snow : List Cond := .code yX11_snow cX11_snow 18 (some .long) :: ((wsX11_snow_r1 ++ wsX11_snow_r2) ++ wsX110)
def wsX11_mean_r1 : List Cond := [Cond.fieldLink RX11 87 "NineMilesOffModel" "thrown" "I", Cond.constantLong RX11 289 (-1000000001), Cond.methodLink RX11 92 yX11_in, Cond.static yX11_in, Cond.initialized RX11, Cond.code yX11_in cX11_in 6 (some .boolean), Cond.methodLink RX11 229 yX11_isPair, Cond.instanceMethod yX11_isPair, Cond.selects RX11 yX11_isPair yX11_isPair, Cond.code yX11_isPair cX11_isPair 3 (some .boolean), Cond.methodLink RX11 113 yX11_isOpen, Cond.instanceMethod yX11_isOpen, Cond.selects RX11 yX11_isOpen yX11_isOpen, Cond.code yX11_isOpen cX11_isOpen 2 (some .boolean), Cond.fieldLink RX11 48 "NineMilesOffModel" "thoughtOpen" "I", Cond.fieldLink RX11 7 "NineMilesOffModel" "kinds" "[I", Cond.fieldLink RX11 96 "NineMilesOffModel" "winter" "I", Cond.fieldLink RX11 13 "NineMilesOffModel" "figures" "[I", Cond.methodLink RX11 226 yX11_isOff, Cond.instanceMethod yX11_isOff, Cond.selects RX11 yX11_isOff yX11_isOff, Cond.code yX11_isOff cX11_isOff 3 (some .boolean), Cond.fieldLink RX11 16 "NineMilesOffModel" "nearest" "I", Cond.fieldLink RX11 20 "NineMilesOffModel" "farthest" "I"]
def wsX11_mean_r2 : List Cond := [Cond.methodLink RX11 106 yX11_farOf, Cond.instanceMethod yX11_farOf, Cond.selects RX11 yX11_farOf yX11_farOf, Cond.code yX11_farOf cX11_farOf 3 (some .int), Cond.methodLink RX11 99 yX11_plainly, Cond.static yX11_plainly, Cond.code yX11_plainly cX11_plainly 1 (some .int), Cond.methodLink RX11 103 yX11_heightOf, Cond.instanceMethod yX11_heightOf, Cond.selects RX11 yX11_heightOf yX11_heightOf, Cond.code yX11_heightOf cX11_heightOf 2 (some .int), Cond.methodLink RX11 232 yX11_pairMany, Cond.instanceMethod yX11_pairMany, Cond.selects RX11 yX11_pairMany yX11_pairMany, Cond.code yX11_pairMany cX11_pairMany 3 (some .int), Cond.methodLink RX11 299 yX11_partOf, Cond.static yX11_partOf, Cond.code yX11_partOf cX11_partOf 7 (some .long), Cond.methodLink RX11 285 yX11_divisor, Cond.static yX11_divisor, Cond.code yX11_divisor cX11_divisor 10 (some .long)]
def wsX11_mean : List Cond := .code yX11_mean cX11_mean 5 (some .long) :: ((wsX11_mean_r1 ++ wsX11_mean_r2) ++ wsX110)
def wsX11_curve_r1 : List Cond := [Cond.fieldLink RX11 87 "NineMilesOffModel" "thrown" "I", Cond.constantLong RX11 210 (20), Cond.fieldLink RX11 20 "NineMilesOffModel" "farthest" "I", Cond.methodLink RX11 92 yX11_in, Cond.static yX11_in, Cond.initialized RX11, Cond.code yX11_in cX11_in 6 (some .boolean), Cond.methodLink RX11 232 yX11_pairMany, Cond.instanceMethod yX11_pairMany, Cond.selects RX11 yX11_pairMany yX11_pairMany, Cond.code yX11_pairMany cX11_pairMany 3 (some .int), Cond.methodLink RX11 229 yX11_isPair, Cond.instanceMethod yX11_isPair, Cond.selects RX11 yX11_isPair yX11_isPair, Cond.code yX11_isPair cX11_isPair 3 (some .boolean), Cond.methodLink RX11 113 yX11_isOpen, Cond.instanceMethod yX11_isOpen, Cond.selects RX11 yX11_isOpen yX11_isOpen, Cond.code yX11_isOpen cX11_isOpen 2 (some .boolean), Cond.fieldLink RX11 48 "NineMilesOffModel" "thoughtOpen" "I", Cond.fieldLink RX11 7 "NineMilesOffModel" "kinds" "[I", Cond.fieldLink RX11 96 "NineMilesOffModel" "winter" "I", Cond.fieldLink RX11 13 "NineMilesOffModel" "figures" "[I", Cond.methodLink RX11 226 yX11_isOff]
def wsX11_curve_r2 : List Cond := [Cond.instanceMethod yX11_isOff, Cond.selects RX11 yX11_isOff yX11_isOff, Cond.code yX11_isOff cX11_isOff 3 (some .boolean), Cond.fieldLink RX11 16 "NineMilesOffModel" "nearest" "I", Cond.methodLink RX11 106 yX11_farOf, Cond.instanceMethod yX11_farOf, Cond.selects RX11 yX11_farOf yX11_farOf, Cond.code yX11_farOf cX11_farOf 3 (some .int), Cond.methodLink RX11 99 yX11_plainly, Cond.static yX11_plainly, Cond.code yX11_plainly cX11_plainly 1 (some .int), Cond.methodLink RX11 103 yX11_heightOf, Cond.instanceMethod yX11_heightOf, Cond.selects RX11 yX11_heightOf yX11_heightOf, Cond.code yX11_heightOf cX11_heightOf 2 (some .int)]
def wsX11_curve : List Cond := .code yX11_curve cX11_curve 4 (some .int) :: ((wsX11_curve_r1 ++ wsX11_curve_r2) ++ wsX110)
def wsX11_skipped : List Cond := .code yX11_skipped cX11_skipped 2 (some .long) :: ([.fieldLink RX11 38 "NineMilesOffModel" "rowSort" "[I", .constantLong RX11 303 (-128), .constantLong RX11 305 (-2147483648), .constantLong RX11 307 (-9223372036854775808)] ++ wsX110)
def wsX11_stayOrGo : List Cond := .code yX11_stayOrGo cX11_stayOrGo 3 (some .long) :: ([.methodLink RX11 218 yX11_goOn, .instanceMethod yX11_goOn, .selects RX11 yX11_goOn yX11_goOn, .initialized RX11, .code yX11_goOn cX11_goOn 8 (some .long), .methodLink RX11 117 yX11_isOn, .static yX11_isOn, .code yX11_isOn cX11_isOn 3 (some .boolean), .methodLink RX11 121 yX11_goneTo, .instanceMethod yX11_goneTo, .selects RX11 yX11_goneTo yX11_goneTo, .code yX11_goneTo cX11_goneTo 4 (some .int), .methodLink RX11 110 yX11_beside, .static yX11_beside, .code yX11_beside cX11_beside 2 (some .int), .methodLink RX11 113 yX11_isOpen, .instanceMethod yX11_isOpen, .selects RX11 yX11_isOpen yX11_isOpen, .code yX11_isOpen cX11_isOpen 2 (some .boolean), .fieldLink RX11 48 "NineMilesOffModel" "thoughtOpen" "I", .fieldLink RX11 7 "NineMilesOffModel" "kinds" "[I", .fieldLink RX11 96 "NineMilesOffModel" "winter" "I", .fieldLink RX11 13 "NineMilesOffModel" "figures" "[I"] ++ wsX110)
def wsX11_judge_r1 : List Cond := [Cond.fieldLink RX11 87 "NineMilesOffModel" "thrown" "I", Cond.constantLong RX11 203 (7), Cond.fieldLink RX11 23 "NineMilesOffModel" "his" "I", Cond.fieldLink RX11 41 "NineMilesOffModel" "rowMany" "[I", Cond.fieldLink RX11 44 "NineMilesOffModel" "rows" "[J", Cond.methodLink RX11 92 yX11_in, Cond.static yX11_in, Cond.initialized RX11, Cond.code yX11_in cX11_in 6 (some .boolean), Cond.methodLink RX11 168 yX11_wrongRow, Cond.instanceMethod yX11_wrongRow, Cond.selects RX11 yX11_wrongRow yX11_wrongRow, Cond.code yX11_wrongRow cX11_wrongRow 2 (some .int), Cond.fieldLink RX11 29 "NineMilesOffModel" "holdsWhat" "[I", Cond.methodLink RX11 309 yX11_stayOrGo, Cond.instanceMethod yX11_stayOrGo, Cond.selects RX11 yX11_stayOrGo yX11_stayOrGo, Cond.code yX11_stayOrGo cX11_stayOrGo 3 (some .long), Cond.methodLink RX11 218 yX11_goOn, Cond.instanceMethod yX11_goOn, Cond.selects RX11 yX11_goOn yX11_goOn, Cond.code yX11_goOn cX11_goOn 8 (some .long), Cond.methodLink RX11 117 yX11_isOn, Cond.static yX11_isOn]
def wsX11_judge_r2 : List Cond := [Cond.code yX11_isOn cX11_isOn 3 (some .boolean), Cond.methodLink RX11 121 yX11_goneTo, Cond.instanceMethod yX11_goneTo, Cond.selects RX11 yX11_goneTo yX11_goneTo, Cond.code yX11_goneTo cX11_goneTo 4 (some .int), Cond.methodLink RX11 110 yX11_beside, Cond.static yX11_beside, Cond.code yX11_beside cX11_beside 2 (some .int), Cond.methodLink RX11 113 yX11_isOpen, Cond.instanceMethod yX11_isOpen, Cond.selects RX11 yX11_isOpen yX11_isOpen, Cond.code yX11_isOpen cX11_isOpen 2 (some .boolean), Cond.fieldLink RX11 48 "NineMilesOffModel" "thoughtOpen" "I", Cond.fieldLink RX11 7 "NineMilesOffModel" "kinds" "[I", Cond.fieldLink RX11 96 "NineMilesOffModel" "winter" "I", Cond.fieldLink RX11 13 "NineMilesOffModel" "figures" "[I", Cond.methodLink RX11 312 yX11_skipped, Cond.instanceMethod yX11_skipped, Cond.selects RX11 yX11_skipped yX11_skipped, Cond.code yX11_skipped cX11_skipped 2 (some .long), Cond.fieldLink RX11 38 "NineMilesOffModel" "rowSort" "[I", Cond.constantLong RX11 303 (-128), Cond.constantLong RX11 305 (-2147483648), Cond.constantLong RX11 307 (-9223372036854775808)]
def wsX11_judge_r3 : List Cond := [Cond.methodLink RX11 196 yX11_isCell, Cond.static yX11_isCell, Cond.code yX11_isCell cX11_isCell 2 (some .boolean), Cond.constantLong RX11 90 (35)]
def wsX11_judge : List Cond := .code yX11_judge cX11_judge 9 (some .int) :: ((wsX11_judge_r1 ++ (wsX11_judge_r2 ++ wsX11_judge_r3)) ++ wsX110)
def wsX11_drawBelow : List Cond := .code yX11_drawBelow cX11_drawBelow 2 (some .int) :: ([.fieldLink RX11 315 "NineMilesOffModel" "seed" "I", .constant RX11 318 (1103515245), .constant RX11 319 (2147483647), .constant RX11 320 (65536)] ++ wsX110)
def wsX11_seeds_r1 : List Cond := [Cond.fieldLink RX11 87 "NineMilesOffModel" "thrown" "I", Cond.constantLong RX11 210 (20), Cond.fieldLink RX11 315 "NineMilesOffModel" "seed" "I", Cond.fieldLink RX11 23 "NineMilesOffModel" "his" "I", Cond.fieldLink RX11 26 "NineMilesOffModel" "hers" "I", Cond.fieldLink RX11 16 "NineMilesOffModel" "nearest" "I", Cond.fieldLink RX11 20 "NineMilesOffModel" "farthest" "I", Cond.methodLink RX11 92 yX11_in, Cond.static yX11_in, Cond.initialized RX11, Cond.code yX11_in cX11_in 6 (some .boolean), Cond.methodLink RX11 243 yX11_areBoth, Cond.instanceMethod yX11_areBoth, Cond.selects RX11 yX11_areBoth yX11_areBoth, Cond.code yX11_areBoth cX11_areBoth 1 (some .boolean), Cond.methodLink RX11 321 yX11_drawBelow, Cond.instanceMethod yX11_drawBelow, Cond.selects RX11 yX11_drawBelow yX11_drawBelow, Cond.code yX11_drawBelow cX11_drawBelow 2 (some .int), Cond.constant RX11 318 (1103515245), Cond.constant RX11 319 (2147483647), Cond.constant RX11 320 (65536), Cond.methodLink RX11 121 yX11_goneTo, Cond.instanceMethod yX11_goneTo]
def wsX11_seeds_r2 : List Cond := [Cond.selects RX11 yX11_goneTo yX11_goneTo, Cond.code yX11_goneTo cX11_goneTo 4 (some .int), Cond.methodLink RX11 110 yX11_beside, Cond.static yX11_beside, Cond.code yX11_beside cX11_beside 2 (some .int), Cond.methodLink RX11 113 yX11_isOpen, Cond.instanceMethod yX11_isOpen, Cond.selects RX11 yX11_isOpen yX11_isOpen, Cond.code yX11_isOpen cX11_isOpen 2 (some .boolean), Cond.fieldLink RX11 48 "NineMilesOffModel" "thoughtOpen" "I", Cond.fieldLink RX11 7 "NineMilesOffModel" "kinds" "[I", Cond.fieldLink RX11 96 "NineMilesOffModel" "winter" "I", Cond.fieldLink RX11 13 "NineMilesOffModel" "figures" "[I", Cond.methodLink RX11 106 yX11_farOf, Cond.instanceMethod yX11_farOf, Cond.selects RX11 yX11_farOf yX11_farOf, Cond.code yX11_farOf cX11_farOf 3 (some .int), Cond.methodLink RX11 99 yX11_plainly, Cond.static yX11_plainly, Cond.code yX11_plainly cX11_plainly 1 (some .int), Cond.methodLink RX11 103 yX11_heightOf, Cond.instanceMethod yX11_heightOf, Cond.selects RX11 yX11_heightOf yX11_heightOf, Cond.code yX11_heightOf cX11_heightOf 2 (some .int)]
def wsX11_seeds : List Cond := .code yX11_seeds cX11_seeds 12 (some .int) :: ((wsX11_seeds_r1 ++ wsX11_seeds_r2) ++ wsX110)
def wsX11_count : List Cond := .code yX11_count cX11_count 2 (some .int) :: ([.fieldLink RX11 87 "NineMilesOffModel" "thrown" "I", .fieldLink RX11 23 "NineMilesOffModel" "his" "I", .fieldLink RX11 26 "NineMilesOffModel" "hers" "I", .fieldLink RX11 151 "NineMilesOffModel" "day" "I", .fieldLink RX11 154 "NineMilesOffModel" "stopped" "I", .fieldLink RX11 157 "NineMilesOffModel" "pain" "I", .fieldLink RX11 16 "NineMilesOffModel" "nearest" "I", .fieldLink RX11 20 "NineMilesOffModel" "farthest" "I", .fieldLink RX11 96 "NineMilesOffModel" "winter" "I", .methodLink RX11 214 yX11_openCells, .instanceMethod yX11_openCells, .selects RX11 yX11_openCells yX11_openCells, .initialized RX11, .code yX11_openCells cX11_openCells 4 (some .long), .methodLink RX11 113 yX11_isOpen, .instanceMethod yX11_isOpen, .selects RX11 yX11_isOpen yX11_isOpen, .code yX11_isOpen cX11_isOpen 2 (some .boolean), .fieldLink RX11 48 "NineMilesOffModel" "thoughtOpen" "I", .fieldLink RX11 7 "NineMilesOffModel" "kinds" "[I", .fieldLink RX11 13 "NineMilesOffModel" "figures" "[I", .methodLink RX11 239 yX11_onesOf, .static yX11_onesOf, .code yX11_onesOf cX11_onesOf 5 (some .int)] ++ wsX110)
def wsX11_keep : List Cond := .code yX11_keep cX11_keep 5 (some .int) :: ([.fieldLink RX11 87 "NineMilesOffModel" "thrown" "I", .constantLong RX11 203 (7), .constantLong RX11 291 (9), .fieldLink RX11 29 "NineMilesOffModel" "holdsWhat" "[I", .fieldLink RX11 32 "NineMilesOffModel" "keptKind" "[I", .fieldLink RX11 35 "NineMilesOffModel" "keptFigure" "[I", .methodLink RX11 92 yX11_in, .static yX11_in, .initialized RX11, .code yX11_in cX11_in 6 (some .boolean)] ++ wsX110)
def wsX11_narrowed : List Cond := .code yX11_narrowed cX11_narrowed 2 (some .long) :: ([])
def wsX11_row : List Cond := .code yX11_row cX11_row 5 (some .int) :: ([.fieldLink RX11 87 "NineMilesOffModel" "thrown" "I", .constantLong RX11 203 (7), .constantLong RX11 208 (2), .fieldLink RX11 29 "NineMilesOffModel" "holdsWhat" "[I", .fieldLink RX11 38 "NineMilesOffModel" "rowSort" "[I", .fieldLink RX11 41 "NineMilesOffModel" "rowMany" "[I", .fieldLink RX11 44 "NineMilesOffModel" "rows" "[J", .methodLink RX11 92 yX11_in, .static yX11_in, .initialized RX11, .code yX11_in cX11_in 6 (some .boolean)] ++ wsX110)
def wsX11_put : List Cond := .code yX11_put cX11_put 5 (some .int) :: ([.fieldLink RX11 87 "NineMilesOffModel" "thrown" "I", .fieldLink RX11 41 "NineMilesOffModel" "rowMany" "[I", .fieldLink RX11 44 "NineMilesOffModel" "rows" "[J", .fieldLink RX11 38 "NineMilesOffModel" "rowSort" "[I", .methodLink RX11 168 yX11_wrongRow, .instanceMethod yX11_wrongRow, .selects RX11 yX11_wrongRow yX11_wrongRow, .initialized RX11, .code yX11_wrongRow cX11_wrongRow 2 (some .int), .constantLong RX11 203 (7), .fieldLink RX11 29 "NineMilesOffModel" "holdsWhat" "[I", .methodLink RX11 92 yX11_in, .static yX11_in, .code yX11_in cX11_in 6 (some .boolean), .methodLink RX11 324 yX11_narrowed, .static yX11_narrowed, .code yX11_narrowed cX11_narrowed 2 (some .long)] ++ wsX110)
def wsX11_element : List Cond := .code yX11_element cX11_element 4 (some .long) :: ([.fieldLink RX11 41 "NineMilesOffModel" "rowMany" "[I", .fieldLink RX11 87 "NineMilesOffModel" "thrown" "I", .fieldLink RX11 44 "NineMilesOffModel" "rows" "[J", .methodLink RX11 168 yX11_wrongRow, .instanceMethod yX11_wrongRow, .selects RX11 yX11_wrongRow yX11_wrongRow, .initialized RX11, .code yX11_wrongRow cX11_wrongRow 2 (some .int), .constantLong RX11 203 (7), .fieldLink RX11 29 "NineMilesOffModel" "holdsWhat" "[I", .methodLink RX11 92 yX11_in, .static yX11_in, .code yX11_in cX11_in 6 (some .boolean)] ++ wsX110)
def wsX11_copy : List Cond := .code yX11_copy cX11_copy 7 (some .int) :: ([.fieldLink RX11 87 "NineMilesOffModel" "thrown" "I", .constantLong RX11 203 (7), .fieldLink RX11 29 "NineMilesOffModel" "holdsWhat" "[I", .fieldLink RX11 38 "NineMilesOffModel" "rowSort" "[I", .fieldLink RX11 41 "NineMilesOffModel" "rowMany" "[I", .fieldLink RX11 84 "NineMilesOffModel" "between" "[J", .fieldLink RX11 44 "NineMilesOffModel" "rows" "[J", .methodLink RX11 92 yX11_in, .static yX11_in, .initialized RX11, .code yX11_in cX11_in 6 (some .boolean)] ++ wsX110)
def wsX11_costOf : List Cond := .code yX11_costOf cX11_costOf 2 (some .int) :: ([])
def wsX11_cost : List Cond := .code yX11_cost cX11_cost 2 (some .int) :: ([.fieldLink RX11 87 "NineMilesOffModel" "thrown" "I", .fieldLink RX11 32 "NineMilesOffModel" "keptKind" "[I", .fieldLink RX11 35 "NineMilesOffModel" "keptFigure" "[I", .methodLink RX11 205 yX11_wrongKept, .instanceMethod yX11_wrongKept, .selects RX11 yX11_wrongKept yX11_wrongKept, .initialized RX11, .code yX11_wrongKept cX11_wrongKept 2 (some .int), .constantLong RX11 203 (7), .fieldLink RX11 29 "NineMilesOffModel" "holdsWhat" "[I", .methodLink RX11 92 yX11_in, .static yX11_in, .code yX11_in cX11_in 6 (some .boolean), .methodLink RX11 328 yX11_costOf, .static yX11_costOf, .code yX11_costOf cX11_costOf 2 (some .int)] ++ wsX110)
def wsX11_toss : List Cond := .code yX11_toss cX11_toss 4 (some .int) :: ([.fieldLink RX11 87 "NineMilesOffModel" "thrown" "I", .fieldLink RX11 32 "NineMilesOffModel" "keptKind" "[I", .fieldLink RX11 35 "NineMilesOffModel" "keptFigure" "[I", .methodLink RX11 205 yX11_wrongKept, .instanceMethod yX11_wrongKept, .selects RX11 yX11_wrongKept yX11_wrongKept, .initialized RX11, .code yX11_wrongKept cX11_wrongKept 2 (some .int), .constantLong RX11 203 (7), .fieldLink RX11 29 "NineMilesOffModel" "holdsWhat" "[I", .methodLink RX11 92 yX11_in, .static yX11_in, .code yX11_in cX11_in 6 (some .boolean), .methodLink RX11 328 yX11_costOf, .static yX11_costOf, .code yX11_costOf cX11_costOf 2 (some .int)] ++ wsX110)
def wsJ9_abs_0f7a4 : List Cond := .code yJ9_abs_0f7a4 cJ9_abs_0f7a4 1 (some .int) :: ([])
def wsJ9_max_7cf53 : List Cond := .code yJ9_max_7cf53 cJ9_max_7cf53 2 (some .int) :: ([])
def wsJ9_min_7cf53 : List Cond := .code yJ9_min_7cf53 cJ9_min_7cf53 2 (some .int) :: ([])
def wsL_element_r1 : List Cond := [Cond.classLink RL 13 "java/lang/IllegalArgumentException", Cond.classLink RL 15 "java/lang/IllegalStateException", Cond.methodLink RL 7 yX10_element, Cond.instanceMethod yX10_element, Cond.selects RX10 yX10_element yX10_element, Cond.initialized RX10, Cond.code yX10_element cX10_element 3 (some .long), Cond.classLink RX10 345 "java/lang/IllegalArgumentException", Cond.initialized "java/lang/IllegalArgumentException", Cond.classLink RX10 352 "java/lang/IllegalStateException", Cond.initialized "java/lang/IllegalStateException", Cond.fieldLink RX10 327 "NineMilesOff$Shelf" "holds" "I", Cond.methodLink RX10 296 yX10_isShelf, Cond.static yX10_isShelf, Cond.code yX10_isShelf cX10_isShelf 1 (some .boolean), Cond.methodLink RX10 58 yX10_shelfAt, Cond.instanceMethod yX10_shelfAt, Cond.selects RX10 yX10_shelfAt yX10_shelfAt, Cond.code yX10_shelfAt cX10_shelfAt 2 (some (.object "NineMilesOff$Shelf")), Cond.fieldLink RX10 50 "NineMilesOff" "shelves" "[LNineMilesOff$Shelf;", Cond.fieldLink RX10 46 "NineMilesOff" "noShelf" "LNineMilesOff$Shelf;", Cond.methodLink RX10 339 yX5_hasPlace, Cond.instanceMethod yX5_hasPlace, Cond.selects RX5 yX5_hasPlace yX5_hasPlace]
def wsL_element_r2 : List Cond := [Cond.initialized RX5, Cond.code yX5_hasPlace cX5_hasPlace 2 (some .boolean), Cond.fieldLink RX5 24 "NineMilesOff$Shelf" "size" "I", Cond.methodLink RX10 359 yX5_numberAt, Cond.instanceMethod yX5_numberAt, Cond.selects RX5 yX5_numberAt yX5_numberAt, Cond.code yX5_numberAt cX5_numberAt 2 (some .long), Cond.fieldLink RX5 27 "NineMilesOff$Shelf" "numbers" "[J"]
def wsL_element : List Cond := .codeWith yL_element cL_element 5 (some .int) [(0, 9, 12, 13), (0, 9, 16, 15)] :: ((wsL_element_r1 ++ wsL_element_r2) ++ wsX50 ++ wsX100 ++ (vx_atS RX10 349 "java/lang/IllegalArgumentException" ["java/lang/RuntimeException", "java/lang/Exception"]).filter goodWord ++ (vx_atS RX10 356 "java/lang/IllegalStateException" ["java/lang/RuntimeException", "java/lang/Exception"]).filter goodWord)
def wsL_law0_r1 : List Cond := [Cond.classLink RL 8 RX10, Cond.instantiable RX10 9, Cond.initialized RX10, Cond.classLink RL 18 RX11, Cond.instantiable RX11 39, Cond.initialized RX11, Cond.arrayClass .long, Cond.methodLink RL 17 yX10_init, Cond.instanceMethod yX10_init, Cond.code yX10_init cX10_init 2 none, Cond.methodLink RX10 3 objectInit, Cond.instanceMethod objectInit, Cond.code objectInit ⟨#[0xb1]⟩ 1 none, Cond.classLink RX10 9 RX3, Cond.instantiable RX3 10, Cond.initialized RX3, Cond.fieldLink RX10 12 "NineMilesOff" "now" "LNineMilesOff$Land;", Cond.fieldLink RX10 16 "NineMilesOff" "kept" "LNineMilesOff$Land;", Cond.fieldLink RX10 19 "NineMilesOff" "trial" "LNineMilesOff$Land;", Cond.classLink RX10 22 RX0, Cond.instantiable RX0 9, Cond.initialized RX0, Cond.fieldLink RX10 25 "NineMilesOff" "board" "LNineMilesOff$Board;", Cond.classLink RX10 29 RX9]
def wsL_law0_r2 : List Cond := [Cond.instantiable RX9 3, Cond.initialized RX9, Cond.fieldLink RX10 32 "NineMilesOff" "track" "LNineMilesOff$Track;", Cond.classLink RX10 36 RX4, Cond.instantiable RX4 1, Cond.initialized RX4, Cond.fieldLink RX10 39 "NineMilesOff" "play" "LNineMilesOff$Play;", Cond.classLink RX10 43 RX5, Cond.instantiable RX5 6, Cond.initialized RX5, Cond.fieldLink RX10 46 "NineMilesOff" "noShelf" "LNineMilesOff$Shelf;", Cond.fieldLink RX10 50 "NineMilesOff" "shelves" "[LNineMilesOff$Shelf;", Cond.instanceMethod yX3_init, Cond.code yX3_init cX3_init 1 none, Cond.methodLink RX3 3 objectInit, Cond.arrayClass .int, Cond.fieldLink RX3 9 "NineMilesOff$Land" "kinds" "[I", Cond.fieldLink RX3 15 "NineMilesOff$Land" "figures" "[I", Cond.fieldLink RX3 18 "NineMilesOff$Land" "winter" "I", Cond.fieldLink RX3 22 "NineMilesOff$Land" "nearest" "I", Cond.fieldLink RX3 25 "NineMilesOff$Land" "farthest" "I", Cond.fieldLink RX3 28 "NineMilesOff$Land" "his" "I", Cond.fieldLink RX3 31 "NineMilesOff$Land" "hers" "I", Cond.fieldLink RX3 34 "NineMilesOff$Land" "day" "I"]
def wsL_law0_r3 : List Cond := [Cond.fieldLink RX3 37 "NineMilesOff$Land" "stopped" "I", Cond.fieldLink RX3 40 "NineMilesOff$Land" "pain" "I", Cond.instanceMethod yX0_init, Cond.code yX0_init cX0_init 1 none, Cond.methodLink RX0 3 objectInit, Cond.fieldLink RX0 9 "NineMilesOff$Board" "heights" "[I", Cond.fieldLink RX0 15 "NineMilesOff$Board" "fars" "[I", Cond.fieldLink RX0 18 "NineMilesOff$Board" "near" "[J", Cond.fieldLink RX0 22 "NineMilesOff$Board" "fit" "[J", Cond.fieldLink RX0 25 "NineMilesOff$Board" "come" "[J", Cond.fieldLink RX0 28 "NineMilesOff$Board" "fresh" "[J", Cond.fieldLink RX0 31 "NineMilesOff$Board" "days" "[I", Cond.fieldLink RX0 34 "NineMilesOff$Board" "walks" "[J", Cond.fieldLink RX0 37 "NineMilesOff$Board" "half" "[J", Cond.instanceMethod yX9_init, Cond.code yX9_init cX9_init 1 none, Cond.methodLink RX9 3 objectInit, Cond.fieldLink RX9 9 "NineMilesOff$Track" "hers" "[J", Cond.fieldLink RX9 15 "NineMilesOff$Track" "left" "[J", Cond.fieldLink RX9 18 "NineMilesOff$Track" "leftThen" "[J", Cond.instanceMethod yX4_init, Cond.code yX4_init cX4_init 1 none, Cond.methodLink RX4 3 objectInit, Cond.fieldLink RX4 9 "NineMilesOff$Play" "fars" "[I"]
def wsL_law0_r4 : List Cond := [Cond.instanceMethod yX5_init, Cond.code yX5_init cX5_init 1 none, Cond.methodLink RX5 3 objectInit, Cond.fieldLink RX5 11 "NineMilesOff$Shelf" "holds" "I", Cond.fieldLink RX5 15 "NineMilesOff$Shelf" "kind" "I", Cond.fieldLink RX5 18 "NineMilesOff$Shelf" "figure" "I", Cond.fieldLink RX5 21 "NineMilesOff$Shelf" "sort" "I", Cond.fieldLink RX5 24 "NineMilesOff$Shelf" "size" "I", Cond.fieldLink RX5 27 "NineMilesOff$Shelf" "numbers" "[J", Cond.methodLink RL 20 yX11_init, Cond.instanceMethod yX11_init, Cond.code yX11_init cX11_init 1 none, Cond.methodLink RX11 1 objectInit, Cond.fieldLink RX11 7 "NineMilesOffModel" "kinds" "[I", Cond.fieldLink RX11 13 "NineMilesOffModel" "figures" "[I", Cond.fieldLink RX11 16 "NineMilesOffModel" "nearest" "I", Cond.fieldLink RX11 20 "NineMilesOffModel" "farthest" "I", Cond.fieldLink RX11 23 "NineMilesOffModel" "his" "I", Cond.fieldLink RX11 26 "NineMilesOffModel" "hers" "I", Cond.fieldLink RX11 29 "NineMilesOffModel" "holdsWhat" "[I", Cond.fieldLink RX11 32 "NineMilesOffModel" "keptKind" "[I", Cond.fieldLink RX11 35 "NineMilesOffModel" "keptFigure" "[I", Cond.fieldLink RX11 38 "NineMilesOffModel" "rowSort" "[I", Cond.fieldLink RX11 41 "NineMilesOffModel" "rowMany" "[I"]
def wsL_law0_r5 : List Cond := [Cond.fieldLink RX11 44 "NineMilesOffModel" "rows" "[J", Cond.fieldLink RX11 48 "NineMilesOffModel" "thoughtOpen" "I", Cond.fieldLink RX11 51 "NineMilesOffModel" "placeIn" "[I", Cond.fieldLink RX11 54 "NineMilesOffModel" "letterOf" "[I", Cond.fieldLink RX11 57 "NineMilesOffModel" "told" "[I", Cond.fieldLink RX11 60 "NineMilesOffModel" "kept" "[I", Cond.fieldLink RX11 63 "NineMilesOffModel" "imaged" "[I", Cond.fieldLink RX11 66 "NineMilesOffModel" "steps" "[I", Cond.fieldLink RX11 69 "NineMilesOffModel" "days" "[I", Cond.fieldLink RX11 72 "NineMilesOffModel" "queue" "[I", Cond.fieldLink RX11 75 "NineMilesOffModel" "waysTo" "[J", Cond.fieldLink RX11 78 "NineMilesOffModel" "waysThen" "[J", Cond.fieldLink RX11 81 "NineMilesOffModel" "unsure" "[I", Cond.fieldLink RX11 84 "NineMilesOffModel" "between" "[J", Cond.fieldLink RX11 87 "NineMilesOffModel" "thrown" "I", Cond.methodLink RL 21 yX10_land, Cond.instanceMethod yX10_land, Cond.selects RX10 yX10_land yX10_land, Cond.code yX10_land cX10_land 5 (some .int), Cond.fieldLink RX10 62 "NineMilesOff$Shelf" "sort" "I", Cond.methodLink RX10 54 yX10_refusalOfRow, Cond.instanceMethod yX10_refusalOfRow, Cond.selects RX10 yX10_refusalOfRow yX10_refusalOfRow, Cond.code yX10_refusalOfRow cX10_refusalOfRow 2 (some .int)]
def wsL_law0_r6 : List Cond := [Cond.methodLink RX10 385 yX10_refusalUnless, Cond.instanceMethod yX10_refusalUnless, Cond.selects RX10 yX10_refusalUnless yX10_refusalUnless, Cond.code yX10_refusalUnless cX10_refusalUnless 3 (some .int), Cond.fieldLink RX10 327 "NineMilesOff$Shelf" "holds" "I", Cond.methodLink RX10 296 yX10_isShelf, Cond.static yX10_isShelf, Cond.code yX10_isShelf cX10_isShelf 1 (some .boolean), Cond.methodLink RX10 58 yX10_shelfAt, Cond.instanceMethod yX10_shelfAt, Cond.selects RX10 yX10_shelfAt yX10_shelfAt, Cond.code yX10_shelfAt cX10_shelfAt 2 (some (.object "NineMilesOff$Shelf")), Cond.methodLink RX10 66 yX8_firstWrongByte, Cond.static yX8_firstWrongByte, Cond.initialized RX8, Cond.code yX8_firstWrongByte cX8_firstWrongByte 5 (some .int), Cond.fieldLink RX8 11 "NineMilesOff$Shelf" "size" "I", Cond.constantLong RX8 25 (59), Cond.constantLong RX8 27 (48), Cond.constantLong RX8 29 (57), Cond.methodLink RX8 17 yX5_numberAt, Cond.instanceMethod yX5_numberAt, Cond.selects RX5 yX5_numberAt yX5_numberAt, Cond.code yX5_numberAt cX5_numberAt 2 (some .long)]
def wsL_law0_r7 : List Cond := [Cond.methodLink RX8 21 yX8_digitsBehind, Cond.static yX8_digitsBehind, Cond.code yX8_digitsBehind cX8_digitsBehind 2 (some .int), Cond.methodLink RX10 72 yX3_becomes, Cond.instanceMethod yX3_becomes, Cond.selects RX3 yX3_becomes yX3_becomes, Cond.code yX3_becomes cX3_becomes 3 none, Cond.methodLink RX10 76 yX8_firstNotDone, Cond.static yX8_firstNotDone, Cond.code yX8_firstNotDone cX8_firstNotDone 4 (some .int), Cond.methodLink RX8 31 yX8_isDone, Cond.static yX8_isDone, Cond.code yX8_isDone cX8_isDone 3 (some .boolean), Cond.methodLink RX8 39 yX8_isLaid, Cond.static yX8_isLaid, Cond.code yX8_isLaid cX8_isLaid 5 (some .boolean), Cond.methodLink RX8 35 yX8_digitAt, Cond.static yX8_digitAt, Cond.code yX8_digitAt cX8_digitAt 2 (some .int), Cond.methodLink RX8 42 yX8_twoDigitsAt, Cond.static yX8_twoDigitsAt, Cond.code yX8_twoDigitsAt cX8_twoDigitsAt 2 (some .int), Cond.methodLink RX8 62 yX2_isKind, Cond.static yX2_isKind]
def wsL_law0_r8 : List Cond := [Cond.initialized RX2, Cond.code yX2_isKind cX2_isKind 1 (some .boolean), Cond.static yX10_isCell, Cond.code yX10_isCell cX10_isCell 2 (some .boolean), Cond.constantLong RX10 383 (36), Cond.methodLink RX8 72 yX3_layAt, Cond.instanceMethod yX3_layAt, Cond.selects RX3 yX3_layAt yX3_layAt, Cond.code yX3_layAt cX3_layAt 4 none, Cond.methodLink RX8 45 yX8_isPlaced, Cond.static yX8_isPlaced, Cond.code yX8_isPlaced cX8_isPlaced 3 (some .boolean), Cond.methodLink RX8 76 yX3_isOpen, Cond.instanceMethod yX3_isOpen, Cond.selects RX3 yX3_isOpen yX3_isOpen, Cond.code yX3_isOpen cX3_isOpen 2 (some .boolean), Cond.methodLink RX3 53 yX2_isOpen, Cond.static yX2_isOpen, Cond.code yX2_isOpen cX2_isOpen 3 (some .boolean), Cond.methodLink RX8 79 yX3_place, Cond.instanceMethod yX3_place, Cond.selects RX3 yX3_place yX3_place, Cond.code yX3_place cX3_place 3 none, Cond.methodLink RX8 49 yX8_isBound]
def wsL_law0_r9 : List Cond := [Cond.static yX8_isBound, Cond.code yX8_isBound cX8_isBound 5 (some .boolean), Cond.fieldLink RX8 86 "NineMilesOff$Land" "nearest" "I", Cond.fieldLink RX8 89 "NineMilesOff$Land" "farthest" "I", Cond.static yX10_isDistance, Cond.code yX10_isDistance cX10_isDistance 1 (some .boolean), Cond.methodLink RX8 52 yX8_isWintered, Cond.static yX8_isWintered, Cond.code yX8_isWintered cX8_isWintered 2 (some .boolean), Cond.fieldLink RX8 95 "NineMilesOff$Land" "winter" "I", Cond.static yX10_isEither, Cond.code yX10_isEither cX10_isEither 1 (some .boolean), Cond.methodLink RX8 56 yX3_goDay, Cond.instanceMethod yX3_goDay, Cond.selects RX3 yX3_goDay yX3_goDay, Cond.code yX3_goDay cX3_goDay 5 (some .boolean), Cond.methodLink RX3 87 yX3_cellBy, Cond.instanceMethod yX3_cellBy, Cond.selects RX3 yX3_cellBy yX3_cellBy, Cond.code yX3_cellBy cX3_cellBy 4 (some .int), Cond.methodLink RX3 84 yX7_cellTo, Cond.static yX7_cellTo, Cond.initialized RX7, Cond.code yX7_cellTo cX7_cellTo 2 (some .int)]
def wsL_law0_r10 : List Cond := [Cond.methodLink RX3 60 yX3_isOpen, Cond.methodLink RX3 90 yX3_endDay, Cond.instanceMethod yX3_endDay, Cond.selects RX3 yX3_endDay yX3_endDay, Cond.code yX3_endDay cX3_endDay 4 none, Cond.methodLink RX3 94 yX3_farBetween, Cond.instanceMethod yX3_farBetween, Cond.selects RX3 yX3_farBetween yX3_farBetween, Cond.code yX3_farBetween cX3_farBetween 3 (some .int), Cond.methodLink RX3 79 Lib.Math.abs.name, Cond.static Lib.Math.abs.name, Cond.initialized "java/lang/Math", Cond.code Lib.Math.abs.name Lib.Math.abs.code 1 (some .int), Cond.methodLink RX3 73 yX7_apart, Cond.static yX7_apart, Cond.code yX7_apart cX7_apart 2 (some .int), Cond.methodLink RX7 19 Lib.Math.abs.name, Cond.methodLink RX3 76 yX3_heightAt, Cond.instanceMethod yX3_heightAt, Cond.selects RX3 yX3_heightAt yX3_heightAt, Cond.code yX3_heightAt cX3_heightAt 2 (some .int), Cond.methodLink RX3 49 yX2_heightOf, Cond.static yX2_heightOf, Cond.code yX2_heightOf cX2_heightOf 2 (some .int)]
def wsL_law0_r11 : List Cond := [Cond.methodLink RX10 80 yX8_statementsOf, Cond.static yX8_statementsOf, Cond.code yX8_statementsOf cX8_statementsOf 3 (some .int), Cond.methodLink RL 25 yX11_land, Cond.instanceMethod yX11_land, Cond.selects RX11 yX11_land yX11_land, Cond.code yX11_land cX11_land 4 (some .int), Cond.fieldLink RX11 127 "NineMilesOffModel" "reading" "I", Cond.fieldLink RX11 124 "NineMilesOffModel" "at" "I", Cond.fieldLink RX11 130 "NineMilesOffModel" "isBad" "Z", Cond.fieldLink RX11 142 "NineMilesOffModel" "statements" "I", Cond.methodLink RX11 168 yX11_wrongRow, Cond.instanceMethod yX11_wrongRow, Cond.selects RX11 yX11_wrongRow yX11_wrongRow, Cond.code yX11_wrongRow cX11_wrongRow 2 (some .int), Cond.constantLong RX11 203 (7), Cond.methodLink RX11 92 yX11_in, Cond.static yX11_in, Cond.code yX11_in cX11_in 6 (some .boolean), Cond.methodLink RX11 171 yX11_readStatement, Cond.instanceMethod yX11_readStatement, Cond.selects RX11 yX11_readStatement yX11_readStatement, Cond.code yX11_readStatement cX11_readStatement 4 none, Cond.methodLink RX11 134 yX11_here]
def wsL_law0_r12 : List Cond := [Cond.instanceMethod yX11_here, Cond.selects RX11 yX11_here yX11_here, Cond.code yX11_here cX11_here 1 (some .int), Cond.methodLink RX11 145 yX11_isLetter, Cond.static yX11_isLetter, Cond.code yX11_isLetter cX11_isLetter 1 (some .boolean), Cond.methodLink RX11 148 yX11_readDigits, Cond.instanceMethod yX11_readDigits, Cond.selects RX11 yX11_readDigits yX11_readDigits, Cond.code yX11_readDigits cX11_readDigits 4 (some .int), Cond.constantLong RX11 138 (48), Cond.constantLong RX11 140 (57), Cond.methodLink RX11 174 yX11_carryAll, Cond.instanceMethod yX11_carryAll, Cond.selects RX11 yX11_carryAll yX11_carryAll, Cond.code yX11_carryAll cX11_carryAll 4 none, Cond.fieldLink RX11 184 "NineMilesOffModel" "keptIn" "[I", Cond.fieldLink RX11 181 "NineMilesOffModel" "isTaking" "Z", Cond.fieldLink RX11 187 "NineMilesOffModel" "place0" "I", Cond.fieldLink RX11 96 "NineMilesOffModel" "winter" "I", Cond.fieldLink RX11 151 "NineMilesOffModel" "day" "I", Cond.fieldLink RX11 154 "NineMilesOffModel" "stopped" "I", Cond.fieldLink RX11 157 "NineMilesOffModel" "pain" "I", Cond.methodLink RX11 190 yX11_carry]
def wsL_law0_r13 : List Cond := [Cond.instanceMethod yX11_carry, Cond.selects RX11 yX11_carry yX11_carry, Cond.code yX11_carry cX11_carry 2 (some .int), Cond.methodLink RX11 178 yX11_comes, Cond.instanceMethod yX11_comes, Cond.selects RX11 yX11_comes yX11_comes, Cond.code yX11_comes cX11_comes 5 (some .boolean), Cond.methodLink RX11 160 yX11_canGo, Cond.instanceMethod yX11_canGo, Cond.selects RX11 yX11_canGo yX11_canGo, Cond.code yX11_canGo cX11_canGo 3 (some .boolean), Cond.methodLink RX11 121 yX11_goneTo, Cond.instanceMethod yX11_goneTo, Cond.selects RX11 yX11_goneTo yX11_goneTo, Cond.code yX11_goneTo cX11_goneTo 4 (some .int), Cond.methodLink RX11 110 yX11_beside, Cond.static yX11_beside, Cond.code yX11_beside cX11_beside 2 (some .int), Cond.methodLink RX11 113 yX11_isOpen, Cond.instanceMethod yX11_isOpen, Cond.selects RX11 yX11_isOpen yX11_isOpen, Cond.code yX11_isOpen cX11_isOpen 2 (some .boolean), Cond.methodLink RX11 164 yX11_goBoth, Cond.instanceMethod yX11_goBoth]
def wsL_law0_r14 : List Cond := [Cond.selects RX11 yX11_goBoth yX11_goBoth, Cond.code yX11_goBoth cX11_goBoth 4 none, Cond.methodLink RX11 106 yX11_farOf, Cond.instanceMethod yX11_farOf, Cond.selects RX11 yX11_farOf yX11_farOf, Cond.code yX11_farOf cX11_farOf 3 (some .int), Cond.methodLink RX11 99 yX11_plainly, Cond.static yX11_plainly, Cond.code yX11_plainly cX11_plainly 1 (some .int), Cond.methodLink RX11 103 yX11_heightOf, Cond.instanceMethod yX11_heightOf, Cond.selects RX11 yX11_heightOf yX11_heightOf, Cond.code yX11_heightOf cX11_heightOf 2 (some .int), Cond.methodLink RL 26 yX10_ground, Cond.instanceMethod yX10_ground, Cond.selects RX10 yX10_ground yX10_ground, Cond.code yX10_ground cX10_ground 3 (some .int), Cond.methodLink RX10 83 yX10_isCell, Cond.methodLink RX10 87 yX3_kindAt, Cond.instanceMethod yX3_kindAt, Cond.selects RX3 yX3_kindAt yX3_kindAt, Cond.code yX3_kindAt cX3_kindAt 2 (some .int), Cond.methodLink RX10 90 yX3_figureAt, Cond.instanceMethod yX3_figureAt]
def wsL_law0_r15 : List Cond := [Cond.selects RX3 yX3_figureAt yX3_figureAt, Cond.code yX3_figureAt cX3_figureAt 2 (some .int), Cond.methodLink RX10 93 yX3_heightAt, Cond.methodLink RX10 96 yX3_isOpen, Cond.methodLink RX10 100 yX3_chanceAt, Cond.instanceMethod yX3_chanceAt, Cond.selects RX3 yX3_chanceAt yX3_chanceAt, Cond.code yX3_chanceAt cX3_chanceAt 2 (some .int), Cond.methodLink RX3 57 yX2_chanceOf, Cond.static yX2_chanceOf, Cond.code yX2_chanceOf cX2_chanceOf 2 (some .int), Cond.methodLink RL 30 yX11_ground, Cond.instanceMethod yX11_ground, Cond.selects RX11 yX11_ground yX11_ground, Cond.code yX11_ground cX11_ground 3 (some .int), Cond.methodLink RX11 196 yX11_isCell, Cond.static yX11_isCell, Cond.code yX11_isCell cX11_isCell 2 (some .boolean), Cond.constantLong RX11 90 (35), Cond.methodLink RX11 200 yX11_chanceOf, Cond.instanceMethod yX11_chanceOf, Cond.selects RX11 yX11_chanceOf yX11_chanceOf, Cond.code yX11_chanceOf cX11_chanceOf 2 (some .int), Cond.methodLink RL 31 yX10_lays]
def wsL_law0_r16 : List Cond := [Cond.instanceMethod yX10_lays, Cond.selects RX10 yX10_lays yX10_lays, Cond.code yX10_lays cX10_lays 5 (some .int), Cond.fieldLink RX10 106 "NineMilesOff$Shelf" "kind" "I", Cond.fieldLink RX10 109 "NineMilesOff$Shelf" "figure" "I", Cond.methodLink RX10 103 yX10_refusalOfGround, Cond.instanceMethod yX10_refusalOfGround, Cond.selects RX10 yX10_refusalOfGround yX10_refusalOfGround, Cond.code yX10_refusalOfGround cX10_refusalOfGround 2 (some .int), Cond.methodLink RX10 112 yX3_layAt, Cond.methodLink RL 34 yX11_lays, Cond.instanceMethod yX11_lays, Cond.selects RX11 yX11_lays yX11_lays, Cond.code yX11_lays cX11_lays 5 (some .int), Cond.methodLink RX11 205 yX11_wrongKept, Cond.instanceMethod yX11_wrongKept, Cond.selects RX11 yX11_wrongKept yX11_wrongKept, Cond.code yX11_wrongKept cX11_wrongKept 2 (some .int), Cond.methodLink RL 35 yX10_stands, Cond.instanceMethod yX10_stands, Cond.selects RX10 yX10_stands yX10_stands, Cond.code yX10_stands cX10_stands 4 (some .int), Cond.fieldLink RX10 119 "NineMilesOff$Land" "his" "I", Cond.fieldLink RX10 122 "NineMilesOff$Land" "hers" "I"]
def wsL_law0_r17 : List Cond := [Cond.methodLink RX10 116 yX10_isEither, Cond.methodLink RX10 125 yX3_place, Cond.methodLink RL 38 yX11_stands, Cond.instanceMethod yX11_stands, Cond.selects RX11 yX11_stands yX11_stands, Cond.code yX11_stands cX11_stands 4 (some .int), Cond.methodLink RL 39 yX10_set, Cond.instanceMethod yX10_set, Cond.selects RX10 yX10_set yX10_set, Cond.code yX10_set cX10_set 4 (some .int), Cond.fieldLink RX10 132 "NineMilesOff$Land" "nearest" "I", Cond.fieldLink RX10 135 "NineMilesOff$Land" "farthest" "I", Cond.fieldLink RX10 138 "NineMilesOff$Land" "winter" "I", Cond.methodLink RX10 129 yX10_isDistance, Cond.methodLink RL 42 yX11_set, Cond.instanceMethod yX11_set, Cond.selects RX11 yX11_set yX11_set, Cond.code yX11_set cX11_set 4 (some .int), Cond.constantLong RX11 208 (2), Cond.constantLong RX11 210 (20), Cond.methodLink RL 43 yX10_go, Cond.instanceMethod yX10_go, Cond.selects RX10 yX10_go yX10_go, Cond.code yX10_go cX10_go 3 (some .int)]
def wsL_law0_r18 : List Cond := [Cond.methodLink RX10 141 yX10_isWay, Cond.static yX10_isWay, Cond.code yX10_isWay cX10_isWay 1 (some .boolean), Cond.methodLink RX10 144 yX3_goDay, Cond.methodLink RX10 148 yX3_farBetween, Cond.methodLink RL 46 yX11_go, Cond.instanceMethod yX11_go, Cond.selects RX11 yX11_go yX11_go, Cond.code yX11_go cX11_go 3 (some .int), Cond.constantLong RX11 212 (4), Cond.methodLink RL 47 yX10_far, Cond.instanceMethod yX10_far, Cond.selects RX10 yX10_far yX10_far, Cond.code yX10_far cX10_far 3 (some .int), Cond.methodLink RL 50 yX11_far, Cond.instanceMethod yX11_far, Cond.selects RX11 yX11_far yX11_far, Cond.code yX11_far cX11_far 3 (some .int), Cond.methodLink RL 51 yX10_steps, Cond.instanceMethod yX10_steps, Cond.selects RX10 yX10_steps yX10_steps, Cond.code yX10_steps cX10_steps 3 (some .int), Cond.methodLink RX10 152 yX3_openCells, Cond.instanceMethod yX3_openCells]
def wsL_law0_r19 : List Cond := [Cond.selects RX3 yX3_openCells yX3_openCells, Cond.code yX3_openCells cX3_openCells 4 (some .long), Cond.methodLink RX3 63 yX7_bit, Cond.static yX7_bit, Cond.code yX7_bit cX7_bit 1 (some .long), Cond.methodLink RX10 156 yX7_stepsBetween, Cond.static yX7_stepsBetween, Cond.code yX7_stepsBetween cX7_stepsBetween 7 (some .int), Cond.methodLink RX7 11 yX7_bit, Cond.methodLink RX7 15 yX7_has, Cond.static yX7_has, Cond.code yX7_has cX7_has 3 (some .boolean), Cond.methodLink RX7 35 yX7_spread, Cond.static yX7_spread, Cond.code yX7_spread cX7_spread 4 (some .long), Cond.constantLong RX7 29 (-1090785346), Cond.constantLong RX7 31 (-34905131041), Cond.constantLong RX7 33 (68719476735), Cond.methodLink RL 54 yX11_steps, Cond.instanceMethod yX11_steps, Cond.selects RX11 yX11_steps yX11_steps, Cond.code yX11_steps cX11_steps 3 (some .int), Cond.methodLink RX11 222 yX11_layStepsFrom, Cond.instanceMethod yX11_layStepsFrom]
def wsL_law0_r20 : List Cond := [Cond.selects RX11 yX11_layStepsFrom yX11_layStepsFrom, Cond.code yX11_layStepsFrom cX11_layStepsFrom 6 none, Cond.methodLink RX11 214 yX11_openCells, Cond.instanceMethod yX11_openCells, Cond.selects RX11 yX11_openCells yX11_openCells, Cond.code yX11_openCells cX11_openCells 4 (some .long), Cond.methodLink RX11 117 yX11_isOn, Cond.static yX11_isOn, Cond.code yX11_isOn cX11_isOn 3 (some .boolean), Cond.methodLink RX11 218 yX11_goOn, Cond.instanceMethod yX11_goOn, Cond.selects RX11 yX11_goOn yX11_goOn, Cond.code yX11_goOn cX11_goOn 8 (some .long), Cond.methodLink RL 55 yX10_pairs, Cond.instanceMethod yX10_pairs, Cond.selects RX10 yX10_pairs yX10_pairs, Cond.code yX10_pairs cX10_pairs 2 (some .int), Cond.methodLink RX10 162 yX0_lay, Cond.instanceMethod yX0_lay, Cond.selects RX0 yX0_lay yX0_lay, Cond.code yX0_lay cX0_lay 5 none, Cond.methodLink RX0 46 Lib.Math.abs.name, Cond.fieldLink RX0 57 "NineMilesOff$Land" "nearest" "I", Cond.fieldLink RX0 61 "NineMilesOff$Land" "farthest" "I"]
def wsL_law0_r21 : List Cond := [Cond.methodLink RX0 40 yX3_heightAt, Cond.methodLink RX0 51 yX7_apart, Cond.methodLink RX0 64 yX0_bound, Cond.instanceMethod yX0_bound, Cond.selects RX0 yX0_bound yX0_bound, Cond.code yX0_bound cX0_bound 8 none, Cond.methodLink RX0 68 yX3_openCells, Cond.methodLink RX0 72 yX0_admit, Cond.instanceMethod yX0_admit, Cond.selects RX0 yX0_admit yX0_admit, Cond.code yX0_admit cX0_admit 4 none, Cond.methodLink RX0 76 yX7_has, Cond.methodLink RX10 165 yX0_pairsInAll, Cond.instanceMethod yX0_pairsInAll, Cond.selects RX0 yX0_pairsInAll yX0_pairsInAll, Cond.code yX0_pairsInAll cX0_pairsInAll 1 (some .int), Cond.methodLink RX0 84 yX0_bitsOf, Cond.static yX0_bitsOf, Cond.code yX0_bitsOf cX0_bitsOf 3 (some .int), Cond.methodLink RX0 88 yJ13_bitCount_95d88, Cond.static yJ13_bitCount_95d88, Cond.initialized RJ13, Cond.code yJ13_bitCount_95d88 cJ13_bitCount_95d88 2 (some .int), Cond.constantLong RJ13 314 (6148914691236517205)]
def wsL_law0_r22 : List Cond := [Cond.constantLong RJ13 316 (3689348814741910323), Cond.constantLong RJ13 318 (1085102592571150095), Cond.methodLink RX10 169 yX0_pairAt, Cond.instanceMethod yX0_pairAt, Cond.selects RX0 yX0_pairAt yX0_pairAt, Cond.code yX0_pairAt cX0_pairAt 5 (some .int), Cond.methodLink RL 58 yX11_pairs, Cond.instanceMethod yX11_pairs, Cond.selects RX11 yX11_pairs yX11_pairs, Cond.code yX11_pairs cX11_pairs 4 (some .int), Cond.methodLink RX11 232 yX11_pairMany, Cond.instanceMethod yX11_pairMany, Cond.selects RX11 yX11_pairMany yX11_pairMany, Cond.code yX11_pairMany cX11_pairMany 3 (some .int), Cond.methodLink RX11 229 yX11_isPair, Cond.instanceMethod yX11_isPair, Cond.selects RX11 yX11_isPair yX11_isPair, Cond.code yX11_isPair cX11_isPair 3 (some .boolean), Cond.methodLink RX11 226 yX11_isOff, Cond.instanceMethod yX11_isOff, Cond.selects RX11 yX11_isOff yX11_isOff, Cond.code yX11_isOff cX11_isOff 3 (some .boolean), Cond.methodLink RL 59 yX10_islands, Cond.instanceMethod yX10_islands]
def wsL_law0_r23 : List Cond := [Cond.selects RX10 yX10_islands yX10_islands, Cond.code yX10_islands cX10_islands 1 (some .int), Cond.methodLink RX10 172 yX7_islandsOf, Cond.static yX7_islandsOf, Cond.code yX7_islandsOf cX7_islandsOf 6 (some .int), Cond.constantLong RX7 47 (-1), Cond.methodLink RX7 43 yX7_islandOf, Cond.static yX7_islandOf, Cond.code yX7_islandOf cX7_islandOf 3 (some .long), Cond.methodLink RX7 39 yX7_cellsWithin, Cond.static yX7_cellsWithin, Cond.code yX7_cellsWithin cX7_cellsWithin 7 (some .long), Cond.methodLink RL 63 yX11_islands, Cond.instanceMethod yX11_islands, Cond.selects RX11 yX11_islands yX11_islands, Cond.code yX11_islands cX11_islands 5 (some .int), Cond.methodLink RX11 235 yX11_partWith, Cond.instanceMethod yX11_partWith, Cond.selects RX11 yX11_partWith yX11_partWith, Cond.code yX11_partWith cX11_partWith 5 (some .long), Cond.methodLink RL 64 yX10_island, Cond.instanceMethod yX10_island, Cond.selects RX10 yX10_island yX10_island, Cond.code yX10_island cX10_island 4 (some .int)]
def wsL_law0_r24 : List Cond := [Cond.methodLink RX10 176 yX7_has, Cond.methodLink RX10 180 yX7_islandOf, Cond.methodLink RX10 184 yJ13_bitCount_95d88, Cond.methodLink RL 67 yX11_island, Cond.instanceMethod yX11_island, Cond.selects RX11 yX11_island yX11_island, Cond.code yX11_island cX11_island 2 (some .int), Cond.methodLink RX11 239 yX11_onesOf, Cond.static yX11_onesOf, Cond.code yX11_onesOf cX11_onesOf 5 (some .int), Cond.methodLink RL 68 yX10_middle, Cond.instanceMethod yX10_middle, Cond.selects RX10 yX10_middle yX10_middle, Cond.code yX10_middle cX10_middle 5 (some .int), Cond.methodLink RX10 189 yX7_middleOf, Cond.static yX7_middleOf, Cond.code yX7_middleOf cX7_middleOf 8 (some .int), Cond.methodLink RX7 55 yX7_largestIsland, Cond.static yX7_largestIsland, Cond.code yX7_largestIsland cX7_largestIsland 9 (some .long), Cond.methodLink RX7 49 yJ13_bitCount_95d88, Cond.methodLink RX7 58 yX7_greatestSteps, Cond.static yX7_greatestSteps, Cond.code yX7_greatestSteps cX7_greatestSteps 8 (some .int)]
def wsL_law0_r25 : List Cond := [Cond.methodLink RX10 192 yX7_greatestSteps, Cond.methodLink RL 71 yX11_middle, Cond.instanceMethod yX11_middle, Cond.selects RX11 yX11_middle yX11_middle, Cond.code yX11_middle cX11_middle 9 (some .int), Cond.methodLink RL 72 yX10_see, Cond.instanceMethod yX10_see, Cond.selects RX10 yX10_see yX10_see, Cond.code yX10_see cX10_see 4 (some .int), Cond.methodLink RX10 196 yX10_refusalToSee, Cond.instanceMethod yX10_refusalToSee, Cond.selects RX10 yX10_refusalToSee yX10_refusalToSee, Cond.code yX10_refusalToSee cX10_refusalToSee 3 (some .int), Cond.methodLink RX10 218 yX3_bothStand, Cond.instanceMethod yX3_bothStand, Cond.selects RX3 yX3_bothStand yX3_bothStand, Cond.code yX3_bothStand cX3_bothStand 1 (some .boolean), Cond.methodLink RX10 199 yX0_daysBetween, Cond.instanceMethod yX0_daysBetween, Cond.selects RX0 yX0_daysBetween yX0_daysBetween, Cond.code yX0_daysBetween cX0_daysBetween 6 (some .int), Cond.methodLink RX0 103 yX0_isPair, Cond.instanceMethod yX0_isPair, Cond.selects RX0 yX0_isPair yX0_isPair]
def wsL_law0_r26 : List Cond := [Cond.code yX0_isPair cX0_isPair 3 (some .boolean), Cond.methodLink RX0 127 yX0_start, Cond.instanceMethod yX0_start, Cond.selects RX0 yX0_start yX0_start, Cond.code yX0_start cX0_start 3 none, Cond.methodLink RX0 94 yJ7_fill_53178, Cond.static yJ7_fill_53178, Cond.initialized RJ7, Cond.code yJ7_fill_53178 cJ7_fill_53178 4 none, Cond.methodLink RX0 100 yJ7_fill_d0a16, Cond.static yJ7_fill_d0a16, Cond.code yJ7_fill_d0a16 cJ7_fill_d0a16 5 none, Cond.methodLink RX0 107 yX7_bit, Cond.methodLink RX0 130 yX0_spreadOn, Cond.instanceMethod yX0_spreadOn, Cond.selects RX0 yX0_spreadOn yX0_spreadOn, Cond.code yX0_spreadOn cX0_spreadOn 4 (some .boolean), Cond.constantLong RX0 118 (-1), Cond.methodLink RX0 111 yX0_comeAround, Cond.instanceMethod yX0_comeAround, Cond.selects RX0 yX0_comeAround yX0_comeAround, Cond.code yX0_comeAround cX0_comeAround 6 (some .long), Cond.methodLink RX0 124 yX7_cellTo, Cond.methodLink RX0 114 yX7_spread]
def wsL_law0_r27 : List Cond := [Cond.methodLink RX0 120 yX0_mark, Cond.instanceMethod yX0_mark, Cond.selects RX0 yX0_mark yX0_mark, Cond.code yX0_mark cX0_mark 6 none, Cond.methodLink RL 75 yX11_see, Cond.instanceMethod yX11_see, Cond.selects RX11 yX11_see yX11_see, Cond.code yX11_see cX11_see 3 (some .int), Cond.methodLink RX11 250 yX11_wrongTwo, Cond.instanceMethod yX11_wrongTwo, Cond.selects RX11 yX11_wrongTwo yX11_wrongTwo, Cond.code yX11_wrongTwo cX11_wrongTwo 3 (some .int), Cond.methodLink RX11 243 yX11_areBoth, Cond.instanceMethod yX11_areBoth, Cond.selects RX11 yX11_areBoth yX11_areBoth, Cond.code yX11_areBoth cX11_areBoth 1 (some .boolean), Cond.methodLink RX11 253 yX11_seeDays, Cond.instanceMethod yX11_seeDays, Cond.selects RX11 yX11_seeDays yX11_seeDays, Cond.code yX11_seeDays cX11_seeDays 4 (some .int), Cond.methodLink RX11 247 yX11_layDaysFrom, Cond.instanceMethod yX11_layDaysFrom, Cond.selects RX11 yX11_layDaysFrom yX11_layDaysFrom, Cond.code yX11_layDaysFrom cX11_layDaysFrom 8 none]
def wsL_law0_r28 : List Cond := [Cond.methodLink RL 76 yX10_way, Cond.instanceMethod yX10_way, Cond.selects RX10 yX10_way yX10_way, Cond.code yX10_way cX10_way 6 (some .int), Cond.methodLink RX10 203 yX0_pairOnWay, Cond.instanceMethod yX0_pairOnWay, Cond.selects RX0 yX0_pairOnWay yX0_pairOnWay, Cond.code yX0_pairOnWay cX0_pairOnWay 6 (some .int), Cond.methodLink RX0 134 yX0_nextPair, Cond.instanceMethod yX0_nextPair, Cond.selects RX0 yX0_nextPair yX0_nextPair, Cond.code yX0_nextPair cX0_nextPair 10 (some .int), Cond.methodLink RX0 137 yX0_daysLeft, Cond.instanceMethod yX0_daysLeft, Cond.selects RX0 yX0_daysLeft yX0_daysLeft, Cond.code yX0_daysLeft cX0_daysLeft 3 (some .int), Cond.methodLink RL 80 yX11_way, Cond.instanceMethod yX11_way, Cond.selects RX11 yX11_way yX11_way, Cond.code yX11_way cX11_way 14 (some .int), Cond.methodLink RL 81 yX10_hinders, Cond.instanceMethod yX10_hinders, Cond.selects RX10 yX10_hinders yX10_hinders, Cond.code yX10_hinders cX10_hinders 10 (some .int)]
def wsL_law0_r29 : List Cond := [Cond.methodLink RX10 207 yX7_bit, Cond.methodLink RX10 211 yX0_admit, Cond.methodLink RL 84 yX11_hinders, Cond.instanceMethod yX11_hinders, Cond.selects RX11 yX11_hinders yX11_hinders, Cond.code yX11_hinders cX11_hinders 7 (some .int), Cond.methodLink RL 85 yX10_needs, Cond.instanceMethod yX10_needs, Cond.selects RX10 yX10_needs yX10_needs, Cond.code yX10_needs cX10_needs 7 (some .int), Cond.methodLink RX10 215 yX0_bound, Cond.methodLink RL 88 yX11_needs, Cond.instanceMethod yX11_needs, Cond.selects RX11 yX11_needs yX11_needs, Cond.code yX11_needs cX11_needs 5 (some .int), Cond.methodLink RL 89 yX10_within, Cond.instanceMethod yX10_within, Cond.selects RX10 yX10_within yX10_within, Cond.code yX10_within cX10_within 2 (some .int), Cond.methodLink RX10 222 yX0_pairsWithin, Cond.instanceMethod yX0_pairsWithin, Cond.selects RX0 yX0_pairsWithin yX0_pairsWithin, Cond.code yX0_pairsWithin cX0_pairsWithin 5 (some .int), Cond.methodLink RL 92 yX11_within]
def wsL_law0_r30 : List Cond := [Cond.instanceMethod yX11_within, Cond.selects RX11 yX11_within yX11_within, Cond.code yX11_within cX11_within 4 (some .int), Cond.constantLong RX11 256 (40), Cond.methodLink RL 93 yX10_ways, Cond.instanceMethod yX10_ways, Cond.selects RX10 yX10_ways yX10_ways, Cond.code yX10_ways cX10_ways 3 (some .long), Cond.methodLink RX10 225 yX10_refusalToCount, Cond.instanceMethod yX10_refusalToCount, Cond.selects RX10 yX10_refusalToCount yX10_refusalToCount, Cond.code yX10_refusalToCount cX10_refusalToCount 2 (some .int), Cond.methodLink RX10 228 yX10_ofLongs, Cond.static yX10_ofLongs, Cond.code yX10_ofLongs cX10_ofLongs 1 (some .long), Cond.constantLong RX10 392 (1000000000), Cond.methodLink RX10 231 yX0_walk, Cond.instanceMethod yX0_walk, Cond.selects RX0 yX0_walk yX0_walk, Cond.code yX0_walk cX0_walk 5 none, Cond.methodLink RX0 140 yX0_walkHim, Cond.instanceMethod yX0_walkHim, Cond.selects RX0 yX0_walkHim yX0_walkHim, Cond.code yX0_walkHim cX0_walkHim 5 none]
def wsL_law0_r31 : List Cond := [Cond.methodLink RX0 143 yX0_walkHer, Cond.instanceMethod yX0_walkHer, Cond.selects RX0 yX0_walkHer yX0_walkHer, Cond.code yX0_walkHer cX0_walkHer 5 none, Cond.methodLink RX10 234 yX0_walksInAll, Cond.instanceMethod yX0_walksInAll, Cond.selects RX0 yX0_walksInAll yX0_walksInAll, Cond.code yX0_walksInAll cX0_walksInAll 4 (some .long), Cond.methodLink RL 97 yX11_ways, Cond.instanceMethod yX11_ways, Cond.selects RX11 yX11_ways yX11_ways, Cond.code yX11_ways cX11_ways 5 (some .long), Cond.constant RX11 263 (1000000000), Cond.methodLink RX11 260 yX11_wrongWays, Cond.instanceMethod yX11_wrongWays, Cond.selects RX11 yX11_wrongWays yX11_wrongWays, Cond.code yX11_wrongWays cX11_wrongWays 2 (some .int), Cond.constantLong RX11 258 (10), Cond.methodLink RX11 264 yX11_layWays, Cond.instanceMethod yX11_layWays, Cond.selects RX11 yX11_layWays yX11_layWays, Cond.code yX11_layWays cX11_layWays 7 none, Cond.methodLink RL 98 yX10_rounds, Cond.instanceMethod yX10_rounds]
def wsL_law0_r32 : List Cond := [Cond.selects RX10 yX10_rounds yX10_rounds, Cond.code yX10_rounds cX10_rounds 3 (some .long), Cond.methodLink RX10 237 yX0_walksTo, Cond.instanceMethod yX0_walksTo, Cond.selects RX0 yX0_walksTo yX0_walksTo, Cond.code yX0_walksTo cX0_walksTo 3 (some .long), Cond.methodLink RL 101 yX11_rounds, Cond.instanceMethod yX11_rounds, Cond.selects RX11 yX11_rounds yX11_rounds, Cond.code yX11_rounds cX11_rounds 2 (some .long), Cond.methodLink RL 102 yX10_late, Cond.instanceMethod yX10_late, Cond.selects RX10 yX10_late yX10_late, Cond.code yX10_late cX10_late 8 (some .int), Cond.constantLong RX10 251 (-1), Cond.methodLink RX10 241 yX7_cellsWithin, Cond.methodLink RX10 245 yX3_cellBy, Cond.methodLink RX10 248 yX0_nearOf, Cond.instanceMethod yX0_nearOf, Cond.selects RX0 yX0_nearOf yX0_nearOf, Cond.code yX0_nearOf cX0_nearOf 2 (some .long), Cond.methodLink RL 105 yX11_late, Cond.instanceMethod yX11_late, Cond.selects RX11 yX11_late yX11_late]
def wsL_law0_r33 : List Cond := [Cond.code yX11_late cX11_late 10 (some .int), Cond.constantLong RX11 267 (8), Cond.methodLink RL 106 yX10_hisWay, Cond.instanceMethod yX10_hisWay, Cond.selects RX10 yX10_hisWay yX10_hisWay, Cond.code yX10_hisWay cX10_hisWay 6 (some .long), Cond.methodLink RX10 253 yX10_refusalOfTrack, Cond.instanceMethod yX10_refusalOfTrack, Cond.selects RX10 yX10_refusalOfTrack yX10_refusalOfTrack, Cond.code yX10_refusalOfTrack cX10_refusalOfTrack 3 (some .int), Cond.methodLink RX10 388 yX9_isOfCells, Cond.static yX9_isOfCells, Cond.code yX9_isOfCells cX9_isOfCells 2 (some .boolean), Cond.fieldLink RX9 21 "NineMilesOff$Shelf" "size" "I", Cond.methodLink RX9 27 yX5_numberAt, Cond.methodLink RX10 256 yX9_follow, Cond.instanceMethod yX9_follow, Cond.selects RX9 yX9_follow yX9_follow, Cond.code yX9_follow cX9_follow 8 (some .long), Cond.methodLink RX9 49 yX7_spread, Cond.methodLink RX9 61 yX9_fitOn, Cond.static yX9_fitOn, Cond.code yX9_fitOn cX9_fitOn 5 (some .long), Cond.methodLink RX9 56 yX0_nearOf]
def wsL_law0_r34 : List Cond := [Cond.methodLink RL 109 yX11_hisWay, Cond.instanceMethod yX11_hisWay, Cond.selects RX11 yX11_hisWay yX11_hisWay, Cond.code yX11_hisWay cX11_hisWay 6 (some .long), Cond.methodLink RX11 273 yX11_wrongCells, Cond.instanceMethod yX11_wrongCells, Cond.selects RX11 yX11_wrongCells yX11_wrongCells, Cond.code yX11_wrongCells cX11_wrongCells 4 (some .int), Cond.methodLink RX11 269 yX11_notOff, Cond.instanceMethod yX11_notOff, Cond.selects RX11 yX11_notOff yX11_notOff, Cond.code yX11_notOff cX11_notOff 8 (some .long), Cond.methodLink RX11 276 yX11_toTheLast, Cond.instanceMethod yX11_toTheLast, Cond.selects RX11 yX11_toTheLast yX11_toTheLast, Cond.code yX11_toTheLast cX11_toTheLast 8 (some .long), Cond.methodLink RL 110 yX10_letter, Cond.instanceMethod yX10_letter, Cond.selects RX10 yX10_letter yX10_letter, Cond.code yX10_letter cX10_letter 5 (some .int), Cond.methodLink RX10 260 yX9_bestDay, Cond.instanceMethod yX9_bestDay, Cond.selects RX9 yX9_bestDay yX9_bestDay, Cond.code yX9_bestDay cX9_bestDay 12 (some .int)]
def wsL_law0_r35 : List Cond := [Cond.methodLink RX9 65 Lib.Math.min.name, Cond.static Lib.Math.min.name, Cond.code Lib.Math.min.name Lib.Math.min.code 2 (some .int), Cond.methodLink RX9 44 yX7_bit, Cond.methodLink RX9 71 yX9_leftAround, Cond.instanceMethod yX9_leftAround, Cond.selects RX9 yX9_leftAround yX9_leftAround, Cond.code yX9_leftAround cX9_leftAround 6 (some .long), Cond.methodLink RX9 82 yX7_cellTo, Cond.methodLink RX9 74 yX7_has, Cond.methodLink RX9 78 yX9_worstOf, Cond.instanceMethod yX9_worstOf, Cond.selects RX9 yX9_worstOf yX9_worstOf, Cond.code yX9_worstOf cX9_worstOf 5 (some .int), Cond.methodLink RX9 90 Lib.Math.max.name, Cond.static Lib.Math.max.name, Cond.code Lib.Math.max.name Lib.Math.max.code 2 (some .int), Cond.methodLink RX9 85 yJ13_bitCount_95d88, Cond.methodLink RL 113 yX11_letter, Cond.instanceMethod yX11_letter, Cond.selects RX11 yX11_letter yX11_letter, Cond.code yX11_letter cX11_letter 11 (some .int), Cond.methodLink RL 114 yX10_third, Cond.instanceMethod yX10_third]
def wsL_law0_r36 : List Cond := [Cond.selects RX10 yX10_third yX10_third, Cond.code yX10_third cX10_third 4 (some .int), Cond.methodLink RX10 264 yX7_leastOf, Cond.static yX7_leastOf, Cond.code yX7_leastOf cX7_leastOf 3 (some .int), Cond.methodLink RL 117 yX11_third, Cond.instanceMethod yX11_third, Cond.selects RX11 yX11_third yX11_third, Cond.code yX11_third cX11_third 6 (some .int), Cond.methodLink RL 118 yX10_game, Cond.instanceMethod yX10_game, Cond.selects RX10 yX10_game yX10_game, Cond.code yX10_game cX10_game 2 (some .int), Cond.methodLink RX10 267 yX4_lay, Cond.instanceMethod yX4_lay, Cond.selects RX4 yX4_lay yX4_lay, Cond.code yX4_lay cX4_lay 7 none, Cond.fieldLink RX4 15 "NineMilesOff$Land" "his" "I", Cond.fieldLink RX4 25 "NineMilesOff$Land" "hers" "I", Cond.methodLink RX4 21 yX3_cellBy, Cond.methodLink RX4 28 yX3_farBetween, Cond.methodLink RX10 268 yX4_firstHeld, Cond.instanceMethod yX4_firstHeld, Cond.selects RX4 yX4_firstHeld yX4_firstHeld]
def wsL_law0_r37 : List Cond := [Cond.code yX4_firstHeld cX4_firstHeld 3 (some .int), Cond.methodLink RX4 35 yX4_farOf, Cond.instanceMethod yX4_farOf, Cond.selects RX4 yX4_farOf yX4_farOf, Cond.code yX4_farOf cX4_farOf 3 (some .int), Cond.methodLink RX4 38 yX4_isHeld, Cond.instanceMethod yX4_isHeld, Cond.selects RX4 yX4_isHeld yX4_isHeld, Cond.code yX4_isHeld cX4_isHeld 7 (some .boolean), Cond.methodLink RX10 271 yX4_leastSure, Cond.instanceMethod yX4_leastSure, Cond.selects RX4 yX4_leastSure yX4_leastSure, Cond.code yX4_leastSure cX4_leastSure 4 (some .int), Cond.methodLink RX4 42 yX4_worstOf, Cond.instanceMethod yX4_worstOf, Cond.selects RX4 yX4_worstOf yX4_worstOf, Cond.code yX4_worstOf cX4_worstOf 4 (some .int), Cond.methodLink RX4 46 Lib.Math.max.name, Cond.methodLink RL 121 yX11_game, Cond.instanceMethod yX11_game, Cond.selects RX11 yX11_game yX11_game, Cond.code yX11_game cX11_game 7 (some .int), Cond.methodLink RX11 282 yX11_rests, Cond.instanceMethod yX11_rests]
def wsL_law0_r38 : List Cond := [Cond.selects RX11 yX11_rests yX11_rests, Cond.code yX11_rests cX11_rests 8 (some .boolean), Cond.methodLink RX11 279 yX11_farBy, Cond.instanceMethod yX11_farBy, Cond.selects RX11 yX11_farBy yX11_farBy, Cond.code yX11_farBy cX11_farBy 5 (some .int), Cond.methodLink RL 122 yX10_snow, Cond.instanceMethod yX10_snow, Cond.selects RX10 yX10_snow yX10_snow, Cond.code yX10_snow cX10_snow 8 (some .long), Cond.constantLong RX10 281 (10), Cond.methodLink RX10 274 yX3_unsureCells, Cond.instanceMethod yX3_unsureCells, Cond.selects RX3 yX3_unsureCells yX3_unsureCells, Cond.code yX3_unsureCells cX3_unsureCells 4 (some .long), Cond.methodLink RX3 69 yX3_chanceAt, Cond.methodLink RX10 283 yX6_likely, Cond.static yX6_likely, Cond.initialized RX6, Cond.code yX6_likely cX6_likely 13 (some .long), Cond.methodLink RX6 26 Lib.Math.min.name, Cond.methodLink RX6 9 yX3_sureCells, Cond.instanceMethod yX3_sureCells, Cond.selects RX3 yX3_sureCells yX3_sureCells]
def wsL_law0_r39 : List Cond := [Cond.code yX3_sureCells cX3_sureCells 4 (some .long), Cond.methodLink RX6 15 yX3_unsureCells, Cond.methodLink RX6 18 yJ13_bitCount_95d88, Cond.methodLink RX6 32 yX6_passableOf, Cond.static yX6_passableOf, Cond.code yX6_passableOf cX6_passableOf 7 (some .long), Cond.methodLink RX6 46 yX7_has, Cond.methodLink RX6 50 yX7_bit, Cond.methodLink RX6 36 yX7_stepsBetween, Cond.methodLink RX6 42 yX6_weightOf, Cond.static yX6_weightOf, Cond.code yX6_weightOf cX6_weightOf 9 (some .long), Cond.methodLink RX6 54 yX3_chanceAt, Cond.methodLink RX10 287 yX1_partOf, Cond.static yX1_partOf, Cond.initialized RX1, Cond.code yX1_partOf cX1_partOf 7 (some .long), Cond.methodLink RX1 7 yX1_commonDivisor, Cond.static yX1_commonDivisor, Cond.code yX1_commonDivisor cX1_commonDivisor 11 (some .long), Cond.methodLink RL 126 yX11_snow, Cond.instanceMethod yX11_snow, Cond.selects RX11 yX11_snow yX11_snow, Cond.code yX11_snow cX11_snow 18 (some .long)]
def wsL_law0_r40 : List Cond := [Cond.constantLong RX11 289 (-1000000001), Cond.constantLong RX11 291 (9), Cond.constantLong RX11 293 (-1000000003), Cond.methodLink RX11 295 yX11_isWay, Cond.static yX11_isWay, Cond.code yX11_isWay cX11_isWay 12 (some .boolean), Cond.methodLink RX11 299 yX11_partOf, Cond.static yX11_partOf, Cond.code yX11_partOf cX11_partOf 7 (some .long), Cond.methodLink RX11 285 yX11_divisor, Cond.static yX11_divisor, Cond.code yX11_divisor cX11_divisor 10 (some .long), Cond.methodLink RL 127 yX10_mean, Cond.instanceMethod yX10_mean, Cond.selects RX10 yX10_mean yX10_mean, Cond.code yX10_mean cX10_mean 2 (some .long), Cond.methodLink RX10 293 yX0_farsInAll, Cond.instanceMethod yX0_farsInAll, Cond.selects RX0 yX0_farsInAll yX0_farsInAll, Cond.code yX0_farsInAll cX0_farsInAll 5 (some .long), Cond.methodLink RL 130 yX11_mean, Cond.instanceMethod yX11_mean, Cond.selects RX11 yX11_mean yX11_mean, Cond.code yX11_mean cX11_mean 5 (some .long)]
def wsL_law0_r41 : List Cond := [Cond.methodLink RL 131 yX10_curve, Cond.instanceMethod yX10_curve, Cond.selects RX10 yX10_curve yX10_curve, Cond.code yX10_curve cX10_curve 2 (some .int), Cond.methodLink RL 134 yX11_curve, Cond.instanceMethod yX11_curve, Cond.selects RX11 yX11_curve yX11_curve, Cond.code yX11_curve cX11_curve 4 (some .int), Cond.methodLink RL 135 yX10_judge, Cond.instanceMethod yX10_judge, Cond.selects RX10 yX10_judge yX10_judge, Cond.code yX10_judge cX10_judge 3 (some .int), Cond.methodLink RX10 299 yX9_firstWrongPlace, Cond.static yX9_firstWrongPlace, Cond.code yX9_firstWrongPlace cX9_firstWrongPlace 11 (some .int), Cond.fieldLink RX9 41 "NineMilesOff$Land" "his" "I", Cond.methodLink RX9 35 yX3_openCells, Cond.methodLink RX9 53 yX5_leastNumber, Cond.instanceMethod yX5_leastNumber, Cond.selects RX5 yX5_leastNumber yX5_leastNumber, Cond.code yX5_leastNumber cX5_leastNumber 1 (some .long), Cond.constantLong RX5 37 (-128), Cond.constantLong RX5 39 (-2147483648), Cond.constantLong RX5 41 (-9223372036854775808)]
def wsL_law0_r42 : List Cond := [Cond.methodLink RL 138 yX11_judge, Cond.instanceMethod yX11_judge, Cond.selects RX11 yX11_judge yX11_judge, Cond.code yX11_judge cX11_judge 9 (some .int), Cond.methodLink RX11 309 yX11_stayOrGo, Cond.instanceMethod yX11_stayOrGo, Cond.selects RX11 yX11_stayOrGo yX11_stayOrGo, Cond.code yX11_stayOrGo cX11_stayOrGo 3 (some .long), Cond.methodLink RX11 312 yX11_skipped, Cond.instanceMethod yX11_skipped, Cond.selects RX11 yX11_skipped yX11_skipped, Cond.code yX11_skipped cX11_skipped 2 (some .long), Cond.constantLong RX11 303 (-128), Cond.constantLong RX11 305 (-2147483648), Cond.constantLong RX11 307 (-9223372036854775808), Cond.methodLink RL 139 yX10_seeds, Cond.instanceMethod yX10_seeds, Cond.selects RX10 yX10_seeds yX10_seeds, Cond.code yX10_seeds cX10_seeds 9 (some .int), Cond.fieldLink RX10 302 "NineMilesOff$Land" "stopped" "I", Cond.fieldLink RX10 305 "NineMilesOff$Land" "pain" "I", Cond.methodLink RX10 308 yX10_nextSeed, Cond.static yX10_nextSeed, Cond.code yX10_nextSeed cX10_nextSeed 1 (some .int)]
def wsL_law0_r43 : List Cond := [Cond.constant RX10 394 (1103515245), Cond.methodLink RX10 311 yX10_drawOf, Cond.static yX10_drawOf, Cond.code yX10_drawOf cX10_drawOf 1 (some .int), Cond.constant RX10 395 (2147483647), Cond.constant RX10 396 (65536), Cond.methodLink RX10 314 yX3_cellByOrStay, Cond.instanceMethod yX3_cellByOrStay, Cond.selects RX3 yX3_cellByOrStay yX3_cellByOrStay, Cond.code yX3_cellByOrStay cX3_cellByOrStay 4 (some .int), Cond.methodLink RX10 317 yX3_endDay, Cond.methodLink RL 142 yX11_seeds, Cond.instanceMethod yX11_seeds, Cond.selects RX11 yX11_seeds yX11_seeds, Cond.code yX11_seeds cX11_seeds 12 (some .int), Cond.fieldLink RX11 315 "NineMilesOffModel" "seed" "I", Cond.methodLink RX11 321 yX11_drawBelow, Cond.instanceMethod yX11_drawBelow, Cond.selects RX11 yX11_drawBelow yX11_drawBelow, Cond.code yX11_drawBelow cX11_drawBelow 2 (some .int), Cond.constant RX11 318 (1103515245), Cond.constant RX11 319 (2147483647), Cond.constant RX11 320 (65536), Cond.methodLink RL 143 yX10_image]
def wsL_law0_r44 : List Cond := [Cond.instanceMethod yX10_image, Cond.selects RX10 yX10_image yX10_image, Cond.code yX10_image cX10_image 1 (some .int), Cond.fieldLink RX10 320 "NineMilesOff" "taken" "Z", Cond.fieldLink RX10 324 "NineMilesOff$Land" "day" "I", Cond.methodLink RL 146 yX11_image, Cond.instanceMethod yX11_image, Cond.selects RX11 yX11_image yX11_image, Cond.code yX11_image cX11_image 1 (some .int), Cond.fieldLink RX11 193 "NineMilesOffModel" "hasImage" "Z", Cond.methodLink RL 147 yX10_restore, Cond.instanceMethod yX10_restore, Cond.selects RX10 yX10_restore yX10_restore, Cond.code yX10_restore cX10_restore 1 (some .int), Cond.methodLink RL 150 yX11_restore, Cond.instanceMethod yX11_restore, Cond.selects RX11 yX11_restore yX11_restore, Cond.code yX11_restore cX11_restore 1 (some .int), Cond.methodLink RL 151 yX10_count, Cond.instanceMethod yX10_count, Cond.selects RX10 yX10_count yX10_count, Cond.code yX10_count cX10_count 2 (some .int), Cond.methodLink RL 154 yX11_count, Cond.instanceMethod yX11_count]
def wsL_law0_r45 : List Cond := [Cond.selects RX11 yX11_count yX11_count, Cond.code yX11_count cX11_count 2 (some .int), Cond.methodLink RL 155 yX10_keep, Cond.instanceMethod yX10_keep, Cond.selects RX10 yX10_keep yX10_keep, Cond.code yX10_keep cX10_keep 5 (some .int), Cond.methodLink RX10 330 yX2_isKind, Cond.methodLink RX10 333 yX5_takeGround, Cond.instanceMethod yX5_takeGround, Cond.selects RX5 yX5_takeGround yX5_takeGround, Cond.code yX5_takeGround cX5_takeGround 3 none, Cond.methodLink RL 159 yX11_keep, Cond.instanceMethod yX11_keep, Cond.selects RX11 yX11_keep yX11_keep, Cond.code yX11_keep cX11_keep 5 (some .int), Cond.methodLink RL 160 yX10_row, Cond.instanceMethod yX10_row, Cond.selects RX10 yX10_row yX10_row, Cond.code yX10_row cX10_row 4 (some .int), Cond.methodLink RX10 336 yX5_takeRow, Cond.instanceMethod yX5_takeRow, Cond.selects RX5 yX5_takeRow yX5_takeRow, Cond.code yX5_takeRow cX5_takeRow 3 none, Cond.methodLink RX5 31 yJ7_fill_d0a16]
def wsL_law0_r46 : List Cond := [Cond.methodLink RL 163 yX11_row, Cond.instanceMethod yX11_row, Cond.selects RX11 yX11_row yX11_row, Cond.code yX11_row cX11_row 5 (some .int), Cond.methodLink RL 164 yX10_put, Cond.instanceMethod yX10_put, Cond.selects RX10 yX10_put yX10_put, Cond.code yX10_put cX10_put 5 (some .int), Cond.methodLink RX10 339 yX5_hasPlace, Cond.instanceMethod yX5_hasPlace, Cond.selects RX5 yX5_hasPlace yX5_hasPlace, Cond.code yX5_hasPlace cX5_hasPlace 2 (some .boolean), Cond.methodLink RX10 342 yX5_write, Cond.instanceMethod yX5_write, Cond.selects RX5 yX5_write yX5_write, Cond.code yX5_write cX5_write 3 none, Cond.methodLink RL 167 yX11_put, Cond.instanceMethod yX11_put, Cond.selects RX11 yX11_put yX11_put, Cond.code yX11_put cX11_put 5 (some .int), Cond.methodLink RX11 324 yX11_narrowed, Cond.static yX11_narrowed, Cond.code yX11_narrowed cX11_narrowed 2 (some .long), Cond.methodLink RL 168 yL_element]
def wsL_law0_r47 : List Cond := [Cond.static yL_element, Cond.initialized RL, Cond.codeWith yL_element cL_element 5 (some .int) [(0, 9, 12, 13), (0, 9, 16, 15)], Cond.classLink RL 13 "java/lang/IllegalArgumentException", Cond.classLink RL 15 "java/lang/IllegalStateException", Cond.methodLink RL 7 yX10_element, Cond.instanceMethod yX10_element, Cond.selects RX10 yX10_element yX10_element, Cond.code yX10_element cX10_element 3 (some .long), Cond.classLink RX10 345 "java/lang/IllegalArgumentException", Cond.initialized "java/lang/IllegalArgumentException", Cond.classLink RX10 352 "java/lang/IllegalStateException", Cond.initialized "java/lang/IllegalStateException", Cond.methodLink RX10 359 yX5_numberAt, Cond.methodLink RL 173 yX11_element, Cond.instanceMethod yX11_element, Cond.selects RX11 yX11_element yX11_element, Cond.code yX11_element cX11_element 4 (some .long), Cond.methodLink RL 174 yX11_thrown, Cond.instanceMethod yX11_thrown, Cond.selects RX11 yX11_thrown yX11_thrown, Cond.code yX11_thrown cX11_thrown 1 (some .int), Cond.methodLink RL 177 yX10_copy, Cond.instanceMethod yX10_copy]
def wsL_law0_r48 : List Cond := [Cond.selects RX10 yX10_copy yX10_copy, Cond.code yX10_copy cX10_copy 8 (some .int), Cond.fieldLink RX10 365 "NineMilesOff$Shelf" "numbers" "[J", Cond.methodLink RX10 369 arraycopyName, Cond.native arraycopyName, Cond.static arraycopyName, Cond.initialized "java/lang/System", Cond.methodLink RX10 362 yX5_hasPlaces, Cond.instanceMethod yX5_hasPlaces, Cond.selects RX5 yX5_hasPlaces yX5_hasPlaces, Cond.code yX5_hasPlaces cX5_hasPlaces 3 (some .boolean), Cond.methodLink RL 181 yX11_copy, Cond.instanceMethod yX11_copy, Cond.selects RX11 yX11_copy yX11_copy, Cond.code yX11_copy cX11_copy 7 (some .int), Cond.methodLink RL 182 yX10_cost, Cond.instanceMethod yX10_cost, Cond.selects RX10 yX10_cost yX10_cost, Cond.code yX10_cost cX10_cost 3 (some .int), Cond.methodLink RX10 375 yX2_costOf, Cond.static yX2_costOf, Cond.code yX2_costOf cX2_costOf 2 (some .int), Cond.methodLink RX2 9 Lib.Math.max.name, Cond.methodLink RL 185 yX11_cost]
def wsL_law0_r49 : List Cond := [Cond.instanceMethod yX11_cost, Cond.selects RX11 yX11_cost yX11_cost, Cond.code yX11_cost cX11_cost 2 (some .int), Cond.methodLink RX11 328 yX11_costOf, Cond.static yX11_costOf, Cond.code yX11_costOf cX11_costOf 2 (some .int), Cond.methodLink RL 186 yX10_toss, Cond.instanceMethod yX10_toss, Cond.selects RX10 yX10_toss yX10_toss, Cond.codeWith yX10_toss cX10_toss 6 (some .int) [(31, 37, 40, 381), (31, 37, 53, 352), (31, 37, 61, 345)], Cond.classLink RX10 381 "java/lang/UnsupportedOperationException", Cond.methodLink RX10 378 yX2_fail, Cond.static yX2_fail, Cond.code yX2_fail cX2_fail 2 none, Cond.classLink RX2 15 "java/lang/UnsupportedOperationException", Cond.initialized "java/lang/UnsupportedOperationException", Cond.classLink RX2 22 "java/lang/IllegalStateException", Cond.classLink RX2 29 "java/lang/IllegalArgumentException", Cond.methodLink RL 189 yX11_toss, Cond.instanceMethod yX11_toss, Cond.selects RX11 yX11_toss yX11_toss, Cond.code yX11_toss cX11_toss 4 (some .int)]
def wsL_law0 : List Cond := (wsL_law0_r1 ++ (wsL_law0_r2 ++ (wsL_law0_r3 ++ (wsL_law0_r4 ++ (wsL_law0_r5 ++ (wsL_law0_r6 ++ (wsL_law0_r7 ++ (wsL_law0_r8 ++ (wsL_law0_r9 ++ (wsL_law0_r10 ++ (wsL_law0_r11 ++ (wsL_law0_r12 ++ (wsL_law0_r13 ++ (wsL_law0_r14 ++ (wsL_law0_r15 ++ (wsL_law0_r16 ++ (wsL_law0_r17 ++ (wsL_law0_r18 ++ (wsL_law0_r19 ++ (wsL_law0_r20 ++ (wsL_law0_r21 ++ (wsL_law0_r22 ++ (wsL_law0_r23 ++ (wsL_law0_r24 ++ (wsL_law0_r25 ++ (wsL_law0_r26 ++ (wsL_law0_r27 ++ (wsL_law0_r28 ++ (wsL_law0_r29 ++ (wsL_law0_r30 ++ (wsL_law0_r31 ++ (wsL_law0_r32 ++ (wsL_law0_r33 ++ (wsL_law0_r34 ++ (wsL_law0_r35 ++ (wsL_law0_r36 ++ (wsL_law0_r37 ++ (wsL_law0_r38 ++ (wsL_law0_r39 ++ (wsL_law0_r40 ++ (wsL_law0_r41 ++ (wsL_law0_r42 ++ (wsL_law0_r43 ++ (wsL_law0_r44 ++ (wsL_law0_r45 ++ (wsL_law0_r46 ++ (wsL_law0_r47 ++ (wsL_law0_r48 ++ wsL_law0_r49)))))))))))))))))))))))))))))))))))))))))))))))) ++ wsX100 ++ wsX110 ++ wsX30 ++ wsX00 ++ wsX90 ++ wsX40 ++ wsX50 ++ ([] : List Cond)
def wsL_law : List Cond := wsL_law0 ++ (vx_atS RX10 349 "java/lang/IllegalArgumentException" ["java/lang/RuntimeException", "java/lang/Exception"]).filter goodWord ++ (vx_atS RX10 356 "java/lang/IllegalStateException" ["java/lang/RuntimeException", "java/lang/Exception"]).filter goodWord ++ (vx_atS RX2 19 "java/lang/UnsupportedOperationException" ["java/lang/RuntimeException", "java/lang/Exception"]).filter goodWord ++ (vx_atS RX2 26 "java/lang/IllegalStateException" ["java/lang/RuntimeException", "java/lang/Exception"]).filter goodWord ++ (vx_atS RX2 33 "java/lang/IllegalArgumentException" ["java/lang/RuntimeException", "java/lang/Exception"]).filter goodWord
set_option maxRecDepth 20000 in
theorem wsL_law_in0 : ∀ w ∈ wsL_law0, w ∈ lw_tbl := fun w h => (goodIn_p wsL_law0 [71, 74, 79, 133, 168, 184, 194, 1019, 254, 258, 262, 265, 269, 272, 276, 279, 286, 289, 292, 295, 298, 301, 304, 307, 312, 316, 320, 323, 327, 330, 333, 336, 339, 343, 347, 350, 356, 360, 366, 363, 370, 373, 377, 1146, 1150, 1154, 1158, 1162, 1165, 1169, 1175, 1179, 1183, 1187, 1191, 1194, 1198, 1202, 1206, 1209, 1213, 381, 386, 390, 396, 399, 1225, 1228, 1233, 403, 407, 1237, 1241, 412, 1245, 418, 1249, 423, 426, 1255, 432, 1260, 436, 440, 443, 446, 450, 453, 1264, 1268, 1272, 1275, 1279, 460, 464, 471, 476, 481, 484, 487, 494, 1283, 1287, 1291, 1295, 498, 501, 504, 507, 1299, 1303, 512, 1307, 1310, 519, 522, 525, 529, 1314, 534, 538, 542, 546, 550, 555, 558, 561, 566, 570, 577, 1318, 1322, 1326, 1330, 1334, 581, 585, 589, 593, 1338, 597, 1342, 603, 1346, 608, 612, 1350, 616, 620, 623, 628, 632, 636, 640, 1355, 1359, 1365, 644, 648, 1369, 652, 658, 1373, 663, 667, 670, 676, 680, 1378, 1382, 1386, 1390, 685, 689, 692, 697, 703, 707, 1394, 711, 714, 1398, 718, 722, 728, 732, 737, 741, 745, 1402, 1406, 1410, 750, 754, 759, 763, 769, 775, 779, 782, 1414, 1420, 1423, 1426, 786, 790, 1430, 794, 1434, 798, 801, 806, 1438, 1442, 1446, 813, 816, 820, 826, 1453, 1457, 831, 1217, 835, 1221, 839, 1464, 843, 848, 1468, 852, 856, 1472, 861, 865, 869, 1476, 1479, 1008, 1483, 1142, 873, 877, 1487, 884, 887, 1491, 1494, 898, 1498] (by decide +kernel) (by decide +kernel) w h).1
theorem wsL_law_x0 : ∀ w ∈ (vx_atS RX10 349 "java/lang/IllegalArgumentException" ["java/lang/RuntimeException", "java/lang/Exception"]).filter goodWord, w ∈ lw_tbl := by decide +kernel
theorem wsL_law_x1 : ∀ w ∈ (vx_atS RX10 356 "java/lang/IllegalStateException" ["java/lang/RuntimeException", "java/lang/Exception"]).filter goodWord, w ∈ lw_tbl := by decide +kernel
theorem wsL_law_x2 : ∀ w ∈ (vx_atS RX2 19 "java/lang/UnsupportedOperationException" ["java/lang/RuntimeException", "java/lang/Exception"]).filter goodWord, w ∈ lw_tbl := by decide +kernel
theorem wsL_law_x3 : ∀ w ∈ (vx_atS RX2 26 "java/lang/IllegalStateException" ["java/lang/RuntimeException", "java/lang/Exception"]).filter goodWord, w ∈ lw_tbl := by decide +kernel
theorem wsL_law_x4 : ∀ w ∈ (vx_atS RX2 33 "java/lang/IllegalArgumentException" ["java/lang/RuntimeException", "java/lang/Exception"]).filter goodWord, w ∈ lw_tbl := by decide +kernel
theorem wsL_law_in : ∀ w ∈ wsL_law, w ∈ lw_tbl := fun w h => (List.mem_append.mp h).elim (fun h => (List.mem_append.mp h).elim (fun h => (List.mem_append.mp h).elim (fun h => (List.mem_append.mp h).elim (fun h => (List.mem_append.mp h).elim (fun h => wsL_law_in0 w h) (fun h => wsL_law_x0 w h)) (fun h => wsL_law_x1 w h)) (fun h => wsL_law_x2 w h)) (fun h => wsL_law_x3 w h)) (fun h => wsL_law_x4 w h)
theorem inlX0 : ∀ w ∈ wsX00, w ∈ wsL_law := fun _ h => List.mem_append_left _ (List.mem_append_left _ (List.mem_append_left _ (List.mem_append_left _ (List.mem_append_left _ (List.mem_append_left _ (List.mem_append_left _ (List.mem_append_left _ (List.mem_append_left _ (List.mem_append_right _ h)))))))))
theorem inX0 : ∀ w ∈ wsX00, w ∈ lw_tbl := fun w h => wsL_law_in w (inlX0 w h)
theorem inX1 : ∀ w ∈ wsX10, w ∈ lw_tbl := by decide +kernel
theorem inX2 : ∀ w ∈ wsX20, w ∈ lw_tbl := by decide +kernel
theorem inlX3 : ∀ w ∈ wsX30, w ∈ wsL_law := fun _ h => List.mem_append_left _ (List.mem_append_left _ (List.mem_append_left _ (List.mem_append_left _ (List.mem_append_left _ (List.mem_append_left _ (List.mem_append_left _ (List.mem_append_left _ (List.mem_append_left _ (List.mem_append_left _ (List.mem_append_right _ h))))))))))
theorem inX3 : ∀ w ∈ wsX30, w ∈ lw_tbl := fun w h => wsL_law_in w (inlX3 w h)
theorem inlX4 : ∀ w ∈ wsX40, w ∈ wsL_law := fun _ h => List.mem_append_left _ (List.mem_append_left _ (List.mem_append_left _ (List.mem_append_left _ (List.mem_append_left _ (List.mem_append_left _ (List.mem_append_left _ (List.mem_append_right _ h)))))))
theorem inX4 : ∀ w ∈ wsX40, w ∈ lw_tbl := fun w h => wsL_law_in w (inlX4 w h)
theorem inlX5 : ∀ w ∈ wsX50, w ∈ wsL_law := fun _ h => List.mem_append_left _ (List.mem_append_left _ (List.mem_append_left _ (List.mem_append_left _ (List.mem_append_left _ (List.mem_append_left _ (List.mem_append_right _ h))))))
theorem inX5 : ∀ w ∈ wsX50, w ∈ lw_tbl := fun w h => wsL_law_in w (inlX5 w h)
theorem inX6 : ∀ w ∈ wsX60, w ∈ lw_tbl := by decide +kernel
theorem inX7 : ∀ w ∈ wsX70, w ∈ lw_tbl := by decide +kernel
theorem inX8 : ∀ w ∈ wsX80, w ∈ lw_tbl := by decide +kernel
theorem inlX9 : ∀ w ∈ wsX90, w ∈ wsL_law := fun _ h => List.mem_append_left _ (List.mem_append_left _ (List.mem_append_left _ (List.mem_append_left _ (List.mem_append_left _ (List.mem_append_left _ (List.mem_append_left _ (List.mem_append_left _ (List.mem_append_right _ h))))))))
theorem inX9 : ∀ w ∈ wsX90, w ∈ lw_tbl := fun w h => wsL_law_in w (inlX9 w h)
theorem inlX10 : ∀ w ∈ wsX100, w ∈ wsL_law := fun _ h => List.mem_append_left _ (List.mem_append_left _ (List.mem_append_left _ (List.mem_append_left _ (List.mem_append_left _ (List.mem_append_left _ (List.mem_append_left _ (List.mem_append_left _ (List.mem_append_left _ (List.mem_append_left _ (List.mem_append_left _ (List.mem_append_left _ (List.mem_append_right _ h))))))))))))
theorem inX10 : ∀ w ∈ wsX100, w ∈ lw_tbl := fun w h => wsL_law_in w (inlX10 w h)
theorem inlX11 : ∀ w ∈ wsX110, w ∈ wsL_law := fun _ h => List.mem_append_left _ (List.mem_append_left _ (List.mem_append_left _ (List.mem_append_left _ (List.mem_append_left _ (List.mem_append_left _ (List.mem_append_left _ (List.mem_append_left _ (List.mem_append_left _ (List.mem_append_left _ (List.mem_append_left _ (List.mem_append_right _ h)))))))))))
theorem inX11 : ∀ w ∈ wsX110, w ∈ lw_tbl := fun w h => wsL_law_in w (inlX11 w h)
theorem inJx145de : ∀ w ∈ wsJx145de0, w ∈ lw_tbl := by decide +kernel
theorem inJ13 : ∀ w ∈ wsJ130, w ∈ lw_tbl := by decide +kernel
theorem inJ9 : ∀ w ∈ wsJ90, w ∈ lw_tbl := by decide +kernel
theorem inJ0 : ∀ w ∈ wsJ00, w ∈ lw_tbl := by decide +kernel
theorem inJ10 : ∀ w ∈ wsJ100, w ∈ lw_tbl := by decide +kernel
theorem inJ7 : ∀ w ∈ wsJ70, w ∈ lw_tbl := by decide +kernel
set_option maxRecDepth 20000 in
theorem ggX0_lay_X3_heightAt : GoodIn wsX0_lay wsX3_heightAt := goodIn_r _ [13, 14, 15, 16, 17, 18, 19, 20, 21, 22, 23, 68, 69, 70, 71, 72, 73, 74, 75, 76, 77] (by decide +kernel) (by decide +kernel)
set_option maxRecDepth 20000 in
theorem gX0_lay_X3_heightAt : GoodIn wsX0_lay (wsV RX0 40 RX3 yX3_heightAt wsX3_heightAt) := goodIn_app (goodIn_of _ (by decide +kernel)) ggX0_lay_X3_heightAt
set_option maxRecDepth 20000 in
theorem ggX0_lay_X7_apart : GoodIn wsX0_lay wsX7_apart := goodIn_r _ [27, 28, 3, 4, 5] (by decide +kernel) (by decide +kernel)
set_option maxRecDepth 20000 in
theorem gX0_lay_X7_apart : GoodIn wsX0_lay (va_wsS RX0 51 yX7_apart wsX7_apart) := goodIn_app (goodIn_of _ (by decide +kernel)) ggX0_lay_X7_apart
set_option maxRecDepth 20000 in
theorem ggX0_lay_X0_bound : GoodIn wsX0_lay wsX0_bound := goodIn_r _ [33, 6, 34, 59, 60, 61, 62, 63, 64, 65, 66, 67] (by decide +kernel) (by decide +kernel)
set_option maxRecDepth 20000 in
theorem gX0_lay_X0_bound : GoodIn wsX0_lay (wsV RX0 64 RX0 yX0_bound wsX0_bound) := goodIn_app (goodIn_of _ (by decide +kernel)) ggX0_lay_X0_bound
set_option maxRecDepth 20000 in
theorem ggX0_lay_X3_openCells : GoodIn wsX0_lay wsX3_openCells := goodIn_r _ [38, 39, 40, 41, 12, 42, 14, 15, 43, 16, 17, 18, 19, 44, 45, 22, 46, 47, 48, 26, 49, 68, 69, 70, 71, 72, 73, 74, 75, 76, 77] (by decide +kernel) (by decide +kernel)
set_option maxRecDepth 20000 in
theorem gX0_lay_X3_openCells : GoodIn wsX0_lay (wsV RX0 68 RX3 yX3_openCells wsX3_openCells) := goodIn_app (goodIn_of _ (by decide +kernel)) ggX0_lay_X3_openCells
set_option maxRecDepth 20000 in
theorem ggX0_lay_X0_admit : GoodIn wsX0_lay wsX0_admit := goodIn_r _ [53, 54, 34, 55, 56, 26, 57, 58, 48, 49, 59, 60, 61, 62, 63, 64, 65, 66, 67] (by decide +kernel) (by decide +kernel)
set_option maxRecDepth 20000 in
theorem gX0_lay_X0_admit : GoodIn wsX0_lay (wsV RX0 72 RX0 yX0_admit wsX0_admit) := goodIn_app (goodIn_of _ (by decide +kernel)) ggX0_lay_X0_admit
set_option maxRecDepth 20000 in
theorem ggX0_admit_X7_has : GoodIn wsX0_admit wsX7_has := goodIn_r _ [6, 7, 8, 5, 9] (by decide +kernel) (by decide +kernel)
set_option maxRecDepth 20000 in
theorem gX0_admit_X7_has : GoodIn wsX0_admit (va_wsS RX0 76 yX7_has wsX7_has) := goodIn_app (goodIn_of _ (by decide +kernel)) ggX0_admit_X7_has
set_option maxRecDepth 20000 in
theorem ggX0_nearOf_X10_isCell : GoodIn wsX0_nearOf wsX10_isCell := goodIn_r _ [4, 5] (by decide +kernel) (by decide +kernel)
set_option maxRecDepth 20000 in
theorem gX0_nearOf_X10_isCell_n80 : GoodIn wsX0_nearOf (wsX10_isCell) := ggX0_nearOf_X10_isCell
set_option maxRecDepth 20000 in
theorem ggX0_isPair_X10_isCell : GoodIn wsX0_isPair wsX10_isCell := goodIn_r _ [4, 5] (by decide +kernel) (by decide +kernel)
set_option maxRecDepth 20000 in
theorem gX0_isPair_X10_isCell_n80 : GoodIn wsX0_isPair (wsX10_isCell) := ggX0_isPair_X10_isCell
set_option maxRecDepth 20000 in
theorem ggX0_isPair_X7_has : GoodIn wsX0_isPair wsX7_has := goodIn_r _ [9, 10, 11, 8, 12] (by decide +kernel) (by decide +kernel)
set_option maxRecDepth 20000 in
theorem gX0_isPair_X7_has : GoodIn wsX0_isPair (va_wsS RX0 76 yX7_has wsX7_has) := goodIn_app (goodIn_of _ (by decide +kernel)) ggX0_isPair_X7_has
set_option maxRecDepth 20000 in
theorem ggX0_pairsInAll_X0_bitsOf : GoodIn wsX0_pairsInAll wsX0_bitsOf := goodIn_r _ [5, 6, 7, 8, 9, 10, 11, 12] (by decide +kernel) (by decide +kernel)
set_option maxRecDepth 20000 in
theorem gX0_pairsInAll_X0_bitsOf : GoodIn wsX0_pairsInAll (va_wsS RX0 84 yX0_bitsOf wsX0_bitsOf) := goodIn_app (goodIn_of _ (by decide +kernel)) ggX0_pairsInAll_X0_bitsOf
set_option maxRecDepth 20000 in
theorem ggX0_bitsOf_J13_bitCount_95d88 : GoodIn wsX0_bitsOf wsJ13_bitCount_95d88 := goodIn_r _ [4, 5, 6, 7] (by decide +kernel) (by decide +kernel)
set_option maxRecDepth 20000 in
theorem gX0_bitsOf_J13_bitCount_95d88 : GoodIn wsX0_bitsOf (va_wsS RX0 88 yJ13_bitCount_95d88 wsJ13_bitCount_95d88) := goodIn_app (goodIn_of _ (by decide +kernel)) ggX0_bitsOf_J13_bitCount_95d88
set_option maxRecDepth 20000 in
theorem ggX0_pairAt_X7_has : GoodIn wsX0_pairAt wsX7_has := goodIn_r _ [5, 6, 7, 4, 8] (by decide +kernel) (by decide +kernel)
set_option maxRecDepth 20000 in
theorem gX0_pairAt_X7_has : GoodIn wsX0_pairAt (va_wsS RX0 76 yX7_has wsX7_has) := goodIn_app (goodIn_of _ (by decide +kernel)) ggX0_pairAt_X7_has
set_option maxRecDepth 20000 in
theorem ggX0_farsInAll_X7_has : GoodIn wsX0_farsInAll wsX7_has := goodIn_r _ [6, 7, 8, 5, 9] (by decide +kernel) (by decide +kernel)
set_option maxRecDepth 20000 in
theorem gX0_farsInAll_X7_has : GoodIn wsX0_farsInAll (va_wsS RX0 76 yX7_has wsX7_has) := goodIn_app (goodIn_of _ (by decide +kernel)) ggX0_farsInAll_X7_has
set_option maxRecDepth 20000 in
theorem ggX0_start_J7_fill_53178 : GoodIn wsX0_start wsJ7_fill_53178 := goodIn_r _ [6] (by decide +kernel) (by decide +kernel)
set_option maxRecDepth 20000 in
theorem gX0_start_J7_fill_53178 : GoodIn wsX0_start (va_wsS RX0 94 yJ7_fill_53178 wsJ7_fill_53178) := goodIn_app (goodIn_of _ (by decide +kernel)) ggX0_start_J7_fill_53178
set_option maxRecDepth 20000 in
theorem ggX0_start_J7_fill_d0a16 : GoodIn wsX0_start wsJ7_fill_d0a16 := goodIn_r _ [9] (by decide +kernel) (by decide +kernel)
set_option maxRecDepth 20000 in
theorem gX0_start_J7_fill_d0a16 : GoodIn wsX0_start (va_wsS RX0 100 yJ7_fill_d0a16 wsJ7_fill_d0a16) := goodIn_app (goodIn_of _ (by decide +kernel)) ggX0_start_J7_fill_d0a16
set_option maxRecDepth 20000 in
theorem ggX0_start_X0_isPair : GoodIn wsX0_start wsX0_isPair := goodIn_r _ [14, 15, 16, 17, 18, 19, 20, 21, 22, 23, 24, 25, 26, 28, 29, 30, 31, 32, 33, 34, 35, 36] (by decide +kernel) (by decide +kernel)
set_option maxRecDepth 20000 in
theorem gX0_start_X0_isPair : GoodIn wsX0_start (wsV RX0 103 RX0 yX0_isPair wsX0_isPair) := goodIn_app (goodIn_of _ (by decide +kernel)) ggX0_start_X0_isPair
set_option maxRecDepth 20000 in
theorem ggX0_start_X7_bit : GoodIn wsX0_start wsX7_bit := goodIn_r _ [26] (by decide +kernel) (by decide +kernel)
set_option maxRecDepth 20000 in
theorem gX0_start_X7_bit : GoodIn wsX0_start (va_wsS RX0 107 yX7_bit wsX7_bit) := goodIn_app (goodIn_of _ (by decide +kernel)) ggX0_start_X7_bit
set_option maxRecDepth 20000 in
theorem ggX0_spreadOn_X0_comeAround : GoodIn wsX0_spreadOn wsX0_comeAround := goodIn_r _ [9, 3, 10, 11, 12, 13, 14, 15, 16, 17, 35, 36, 37, 38, 39, 40, 41, 42, 43] (by decide +kernel) (by decide +kernel)
set_option maxRecDepth 20000 in
theorem gX0_spreadOn_X0_comeAround : GoodIn wsX0_spreadOn (wsV RX0 111 RX0 yX0_comeAround wsX0_comeAround) := goodIn_app (goodIn_of _ (by decide +kernel)) ggX0_spreadOn_X0_comeAround
set_option maxRecDepth 20000 in
theorem ggX0_spreadOn_X7_spread : GoodIn wsX0_spreadOn wsX7_spread := goodIn_r _ [20, 21, 22, 23] (by decide +kernel) (by decide +kernel)
set_option maxRecDepth 20000 in
theorem gX0_spreadOn_X7_spread : GoodIn wsX0_spreadOn (va_wsS RX0 114 yX7_spread wsX7_spread) := goodIn_app (goodIn_of _ (by decide +kernel)) ggX0_spreadOn_X7_spread
set_option maxRecDepth 20000 in
theorem ggX0_spreadOn_X0_mark : GoodIn wsX0_spreadOn wsX0_mark := goodIn_r _ [27, 28, 14, 15, 16, 17, 29, 30, 12, 31, 32, 33, 34, 35, 36, 37, 38, 39, 40, 41, 42, 43] (by decide +kernel) (by decide +kernel)
set_option maxRecDepth 20000 in
theorem gX0_spreadOn_X0_mark : GoodIn wsX0_spreadOn (wsV RX0 120 RX0 yX0_mark wsX0_mark) := goodIn_app (goodIn_of _ (by decide +kernel)) ggX0_spreadOn_X0_mark
set_option maxRecDepth 20000 in
theorem ggX0_comeAround_X7_cellTo : GoodIn wsX0_comeAround wsX7_cellTo := goodIn_r _ [5, 6, 7, 8, 9] (by decide +kernel) (by decide +kernel)
set_option maxRecDepth 20000 in
theorem gX0_comeAround_X7_cellTo : GoodIn wsX0_comeAround (va_wsS RX0 124 yX7_cellTo wsX7_cellTo) := goodIn_app (goodIn_of _ (by decide +kernel)) ggX0_comeAround_X7_cellTo
set_option maxRecDepth 20000 in
theorem ggX0_comeAround_X10_isCell : GoodIn wsX0_comeAround wsX10_isCell := goodIn_r _ [8, 9] (by decide +kernel) (by decide +kernel)
set_option maxRecDepth 20000 in
theorem gX0_comeAround_X10_isCell_n80 : GoodIn wsX0_comeAround (wsX10_isCell) := ggX0_comeAround_X10_isCell
set_option maxRecDepth 20000 in
theorem ggX0_mark_X10_isCell : GoodIn wsX0_mark wsX10_isCell := goodIn_r _ [4, 5] (by decide +kernel) (by decide +kernel)
set_option maxRecDepth 20000 in
theorem gX0_mark_X10_isCell_n80 : GoodIn wsX0_mark (wsX10_isCell) := ggX0_mark_X10_isCell
set_option maxRecDepth 20000 in
theorem ggX0_mark_X7_has : GoodIn wsX0_mark wsX7_has := goodIn_r _ [9, 10, 11, 8, 12] (by decide +kernel) (by decide +kernel)
set_option maxRecDepth 20000 in
theorem gX0_mark_X7_has : GoodIn wsX0_mark (va_wsS RX0 76 yX7_has wsX7_has) := goodIn_app (goodIn_of _ (by decide +kernel)) ggX0_mark_X7_has
set_option maxRecDepth 20000 in
theorem ggX0_daysBetween_X0_isPair : GoodIn wsX0_daysBetween wsX0_isPair := goodIn_r _ [6, 7, 8, 9, 10, 11, 12, 13, 14, 15, 16, 17, 18, 55, 56, 57, 58, 59, 60, 61, 62, 63] (by decide +kernel) (by decide +kernel)
set_option maxRecDepth 20000 in
theorem gX0_daysBetween_X0_isPair : GoodIn wsX0_daysBetween (wsV RX0 103 RX0 yX0_isPair wsX0_isPair) := goodIn_app (goodIn_of _ (by decide +kernel)) ggX0_daysBetween_X0_isPair
set_option maxRecDepth 20000 in
theorem ggX0_daysBetween_X0_start : GoodIn wsX0_daysBetween wsX0_start := goodIn_r _ [22, 23, 1, 24, 25, 26, 27, 28, 29, 30, 2, 3, 4, 5, 6, 7, 8, 9, 10, 11, 12, 13, 14, 15, 16, 17, 18, 31, 55, 56, 57, 58, 59, 60, 61, 62, 63] (by decide +kernel) (by decide +kernel)
set_option maxRecDepth 20000 in
theorem gX0_daysBetween_X0_start : GoodIn wsX0_daysBetween (wsV RX0 127 RX0 yX0_start wsX0_start) := goodIn_app (goodIn_of _ (by decide +kernel)) ggX0_daysBetween_X0_start
set_option maxRecDepth 20000 in
theorem ggX0_daysBetween_X7_has : GoodIn wsX0_daysBetween wsX7_has := goodIn_r _ [15, 16, 17, 14, 18] (by decide +kernel) (by decide +kernel)
set_option maxRecDepth 20000 in
theorem gX0_daysBetween_X7_has : GoodIn wsX0_daysBetween (va_wsS RX0 76 yX7_has wsX7_has) := goodIn_app (goodIn_of _ (by decide +kernel)) ggX0_daysBetween_X7_has
set_option maxRecDepth 20000 in
theorem ggX0_daysBetween_X0_spreadOn : GoodIn wsX0_daysBetween wsX0_spreadOn := goodIn_r _ [35, 36, 7, 1, 37, 38, 39, 40, 5, 41, 42, 43, 14, 44, 8, 9, 10, 11, 45, 46, 47, 48, 49, 50, 51, 52, 53, 54, 23, 12, 13, 15, 16, 17, 18, 55, 56, 57, 58, 59, 60, 61, 62, 63] (by decide +kernel) (by decide +kernel)
set_option maxRecDepth 20000 in
theorem gX0_daysBetween_X0_spreadOn : GoodIn wsX0_daysBetween (wsV RX0 130 RX0 yX0_spreadOn wsX0_spreadOn) := goodIn_app (goodIn_of _ (by decide +kernel)) ggX0_daysBetween_X0_spreadOn
set_option maxRecDepth 20000 in
theorem ggX0_daysLeft_X10_isCell : GoodIn wsX0_daysLeft wsX10_isCell := goodIn_r _ [4, 5] (by decide +kernel) (by decide +kernel)
set_option maxRecDepth 20000 in
theorem gX0_daysLeft_X10_isCell_n80 : GoodIn wsX0_daysLeft (wsX10_isCell) := ggX0_daysLeft_X10_isCell
set_option maxRecDepth 20000 in
theorem ggX0_pairOnWay_X0_nextPair : GoodIn wsX0_pairOnWay wsX0_nextPair := goodIn_r _ [5, 6, 7, 8, 4, 9, 10, 11, 12, 13, 14, 15, 16, 17, 18, 19, 20, 21, 22, 23, 24, 25, 26, 27] (by decide +kernel) (by decide +kernel)
set_option maxRecDepth 20000 in
theorem gX0_pairOnWay_X0_nextPair : GoodIn wsX0_pairOnWay (wsV RX0 134 RX0 yX0_nextPair wsX0_nextPair) := goodIn_app (goodIn_of _ (by decide +kernel)) ggX0_pairOnWay_X0_nextPair
set_option maxRecDepth 20000 in
theorem ggX0_nextPair_X0_daysLeft : GoodIn wsX0_nextPair wsX0_daysLeft := goodIn_r _ [5, 6, 7, 8, 9, 10, 15, 16, 17, 18, 19, 20, 21, 22, 23] (by decide +kernel) (by decide +kernel)
set_option maxRecDepth 20000 in
theorem gX0_nextPair_X0_daysLeft : GoodIn wsX0_nextPair (wsV RX0 137 RX0 yX0_daysLeft wsX0_daysLeft) := goodIn_app (goodIn_of _ (by decide +kernel)) ggX0_nextPair_X0_daysLeft
set_option maxRecDepth 20000 in
theorem ggX0_nextPair_X7_cellTo : GoodIn wsX0_nextPair wsX7_cellTo := goodIn_r _ [14, 7, 8, 9, 10] (by decide +kernel) (by decide +kernel)
set_option maxRecDepth 20000 in
theorem gX0_nextPair_X7_cellTo : GoodIn wsX0_nextPair (va_wsS RX0 124 yX7_cellTo wsX7_cellTo) := goodIn_app (goodIn_of _ (by decide +kernel)) ggX0_nextPair_X7_cellTo
set_option maxRecDepth 20000 in
theorem ggX0_pairsWithin_X0_start : GoodIn wsX0_pairsWithin wsX0_start := goodIn_r _ [6, 7, 1, 8, 9, 10, 11, 12, 13, 14, 15, 16, 17, 5, 18, 19, 20, 21, 22, 23, 24, 25, 26, 27, 28, 29, 30, 31, 65, 66, 67, 68, 69, 70, 71, 72, 73] (by decide +kernel) (by decide +kernel)
set_option maxRecDepth 20000 in
theorem gX0_pairsWithin_X0_start : GoodIn wsX0_pairsWithin (wsV RX0 127 RX0 yX0_start wsX0_start) := goodIn_app (goodIn_of _ (by decide +kernel)) ggX0_pairsWithin_X0_start
set_option maxRecDepth 20000 in
theorem ggX0_pairsWithin_X0_spreadOn : GoodIn wsX0_pairsWithin wsX0_spreadOn := goodIn_r _ [35, 36, 19, 1, 37, 38, 39, 40, 5, 41, 42, 43, 26, 44, 20, 21, 22, 23, 45, 46, 47, 48, 49, 50, 51, 52, 53, 54, 7, 24, 25, 27, 28, 29, 30, 65, 66, 67, 68, 69, 70, 71, 72, 73] (by decide +kernel) (by decide +kernel)
set_option maxRecDepth 20000 in
theorem gX0_pairsWithin_X0_spreadOn : GoodIn wsX0_pairsWithin (wsV RX0 130 RX0 yX0_spreadOn wsX0_spreadOn) := goodIn_app (goodIn_of _ (by decide +kernel)) ggX0_pairsWithin_X0_spreadOn
set_option maxRecDepth 20000 in
theorem ggX0_pairsWithin_X0_bitsOf : GoodIn wsX0_pairsWithin wsX0_bitsOf := goodIn_r _ [57, 58, 59, 60, 61, 62, 63, 64] (by decide +kernel) (by decide +kernel)
set_option maxRecDepth 20000 in
theorem gX0_pairsWithin_X0_bitsOf : GoodIn wsX0_pairsWithin (va_wsS RX0 84 yX0_bitsOf wsX0_bitsOf) := goodIn_app (goodIn_of _ (by decide +kernel)) ggX0_pairsWithin_X0_bitsOf
set_option maxRecDepth 20000 in
theorem ggX0_walk_J7_fill_d0a16 : GoodIn wsX0_walk wsJ7_fill_d0a16 := goodIn_r _ [5] (by decide +kernel) (by decide +kernel)
set_option maxRecDepth 20000 in
theorem gX0_walk_J7_fill_d0a16 : GoodIn wsX0_walk (va_wsS RX0 100 yJ7_fill_d0a16 wsJ7_fill_d0a16) := goodIn_app (goodIn_of _ (by decide +kernel)) ggX0_walk_J7_fill_d0a16
set_option maxRecDepth 20000 in
theorem ggX0_walk_X0_isPair : GoodIn wsX0_walk wsX0_isPair := goodIn_r _ [10, 11, 12, 13, 14, 15, 16, 17, 18, 19, 20, 21, 22, 35, 36, 37, 38, 39, 40, 41, 42, 43] (by decide +kernel) (by decide +kernel)
set_option maxRecDepth 20000 in
theorem gX0_walk_X0_isPair : GoodIn wsX0_walk (wsV RX0 103 RX0 yX0_isPair wsX0_isPair) := goodIn_app (goodIn_of _ (by decide +kernel)) ggX0_walk_X0_isPair
set_option maxRecDepth 20000 in
theorem ggX0_walk_X0_walkHim : GoodIn wsX0_walk wsX0_walkHim := goodIn_r _ [26, 27, 1, 2, 3, 4, 5, 28, 29, 18, 30, 12, 13, 14, 15, 35, 36, 37, 38, 39, 40, 41, 42, 43] (by decide +kernel) (by decide +kernel)
set_option maxRecDepth 20000 in
theorem gX0_walk_X0_walkHim : GoodIn wsX0_walk (wsV RX0 140 RX0 yX0_walkHim wsX0_walkHim) := goodIn_app (goodIn_of _ (by decide +kernel)) ggX0_walk_X0_walkHim
set_option maxRecDepth 20000 in
theorem ggX0_walk_X0_walkHer : GoodIn wsX0_walk wsX0_walkHer := goodIn_r _ [34, 1, 11, 27, 2, 3, 4, 5, 28, 29, 18, 30, 12, 13, 14, 15, 35, 36, 37, 38, 39, 40, 41, 42, 43] (by decide +kernel) (by decide +kernel)
set_option maxRecDepth 20000 in
theorem gX0_walk_X0_walkHer : GoodIn wsX0_walk (wsV RX0 143 RX0 yX0_walkHer wsX0_walkHer) := goodIn_app (goodIn_of _ (by decide +kernel)) ggX0_walk_X0_walkHer
set_option maxRecDepth 20000 in
theorem ggX0_walkHim_J7_fill_d0a16 : GoodIn wsX0_walkHim wsJ7_fill_d0a16 := goodIn_r _ [6] (by decide +kernel) (by decide +kernel)
set_option maxRecDepth 20000 in
theorem gX0_walkHim_J7_fill_d0a16 : GoodIn wsX0_walkHim (va_wsS RX0 100 yJ7_fill_d0a16 wsJ7_fill_d0a16) := goodIn_app (goodIn_of _ (by decide +kernel)) ggX0_walkHim_J7_fill_d0a16
set_option maxRecDepth 20000 in
theorem ggX0_walkHim_X7_cellTo : GoodIn wsX0_walkHim wsX7_cellTo := goodIn_r _ [10, 11, 12, 13, 14] (by decide +kernel) (by decide +kernel)
set_option maxRecDepth 20000 in
theorem gX0_walkHim_X7_cellTo : GoodIn wsX0_walkHim (va_wsS RX0 124 yX7_cellTo wsX7_cellTo) := goodIn_app (goodIn_of _ (by decide +kernel)) ggX0_walkHim_X7_cellTo
set_option maxRecDepth 20000 in
theorem ggX0_walkHim_X10_isCell : GoodIn wsX0_walkHim wsX10_isCell := goodIn_r _ [13, 14] (by decide +kernel) (by decide +kernel)
set_option maxRecDepth 20000 in
theorem gX0_walkHim_X10_isCell_n80 : GoodIn wsX0_walkHim (wsX10_isCell) := ggX0_walkHim_X10_isCell
set_option maxRecDepth 20000 in
theorem ggX0_walkHer_J7_fill_d0a16 : GoodIn wsX0_walkHer wsJ7_fill_d0a16 := goodIn_r _ [7] (by decide +kernel) (by decide +kernel)
set_option maxRecDepth 20000 in
theorem gX0_walkHer_J7_fill_d0a16 : GoodIn wsX0_walkHer (va_wsS RX0 100 yJ7_fill_d0a16 wsJ7_fill_d0a16) := goodIn_app (goodIn_of _ (by decide +kernel)) ggX0_walkHer_J7_fill_d0a16
set_option maxRecDepth 20000 in
theorem ggX0_walkHer_X7_cellTo : GoodIn wsX0_walkHer wsX7_cellTo := goodIn_r _ [11, 12, 13, 14, 15] (by decide +kernel) (by decide +kernel)
set_option maxRecDepth 20000 in
theorem gX0_walkHer_X7_cellTo : GoodIn wsX0_walkHer (va_wsS RX0 124 yX7_cellTo wsX7_cellTo) := goodIn_app (goodIn_of _ (by decide +kernel)) ggX0_walkHer_X7_cellTo
set_option maxRecDepth 20000 in
theorem ggX0_walkHer_X10_isCell : GoodIn wsX0_walkHer wsX10_isCell := goodIn_r _ [14, 15] (by decide +kernel) (by decide +kernel)
set_option maxRecDepth 20000 in
theorem gX0_walkHer_X10_isCell_n80 : GoodIn wsX0_walkHer (wsX10_isCell) := ggX0_walkHer_X10_isCell
set_option maxRecDepth 20000 in
theorem ggX0_walksTo_X10_isCell : GoodIn wsX0_walksTo wsX10_isCell := goodIn_r _ [4, 5] (by decide +kernel) (by decide +kernel)
set_option maxRecDepth 20000 in
theorem gX0_walksTo_X10_isCell_n80 : GoodIn wsX0_walksTo (wsX10_isCell) := ggX0_walksTo_X10_isCell
set_option maxRecDepth 20000 in
theorem ggX1_partOf_X1_commonDivisor : GoodIn wsX1_partOf wsX1_commonDivisor := goodIn_r _ [4] (by decide +kernel) (by decide +kernel)
set_option maxRecDepth 20000 in
theorem gX1_partOf_X1_commonDivisor : GoodIn wsX1_partOf (va_wsS RX1 7 yX1_commonDivisor wsX1_commonDivisor) := goodIn_app (goodIn_of _ (by decide +kernel)) ggX1_partOf_X1_commonDivisor
set_option maxRecDepth 20000 in
theorem ggX3_kindAt_X10_isCell : GoodIn wsX3_kindAt wsX10_isCell := goodIn_r _ [4, 5] (by decide +kernel) (by decide +kernel)
set_option maxRecDepth 20000 in
theorem gX3_kindAt_X10_isCell_n43 : GoodIn wsX3_kindAt (wsX10_isCell) := ggX3_kindAt_X10_isCell
set_option maxRecDepth 20000 in
theorem ggX3_figureAt_X10_isCell : GoodIn wsX3_figureAt wsX10_isCell := goodIn_r _ [4, 5] (by decide +kernel) (by decide +kernel)
set_option maxRecDepth 20000 in
theorem gX3_figureAt_X10_isCell_n43 : GoodIn wsX3_figureAt (wsX10_isCell) := ggX3_figureAt_X10_isCell
set_option maxRecDepth 20000 in
theorem ggX3_heightAt_X10_isCell : GoodIn wsX3_heightAt wsX10_isCell := goodIn_r _ [5, 6] (by decide +kernel) (by decide +kernel)
set_option maxRecDepth 20000 in
theorem gX3_heightAt_X10_isCell_n43 : GoodIn wsX3_heightAt (wsX10_isCell) := ggX3_heightAt_X10_isCell
set_option maxRecDepth 20000 in
theorem ggX3_heightAt_X2_heightOf : GoodIn wsX3_heightAt wsX2_heightOf := goodIn_r _ [10] (by decide +kernel) (by decide +kernel)
set_option maxRecDepth 20000 in
theorem gX3_heightAt_X2_heightOf : GoodIn wsX3_heightAt (va_wsS RX3 49 yX2_heightOf wsX2_heightOf) := goodIn_app (goodIn_of _ (by decide +kernel)) ggX3_heightAt_X2_heightOf
set_option maxRecDepth 20000 in
theorem ggX3_isOpen_X10_isCell : GoodIn wsX3_isOpen wsX10_isCell := goodIn_r _ [6, 7] (by decide +kernel) (by decide +kernel)
set_option maxRecDepth 20000 in
theorem gX3_isOpen_X10_isCell_n43 : GoodIn wsX3_isOpen (wsX10_isCell) := ggX3_isOpen_X10_isCell
set_option maxRecDepth 20000 in
theorem ggX3_isOpen_X2_isOpen : GoodIn wsX3_isOpen wsX2_isOpen := goodIn_r _ [11] (by decide +kernel) (by decide +kernel)
set_option maxRecDepth 20000 in
theorem gX3_isOpen_X2_isOpen : GoodIn wsX3_isOpen (va_wsS RX3 53 yX2_isOpen wsX2_isOpen) := goodIn_app (goodIn_of _ (by decide +kernel)) ggX3_isOpen_X2_isOpen
set_option maxRecDepth 20000 in
theorem ggX3_chanceAt_X10_isCell : GoodIn wsX3_chanceAt wsX10_isCell := goodIn_r _ [5, 6] (by decide +kernel) (by decide +kernel)
set_option maxRecDepth 20000 in
theorem gX3_chanceAt_X10_isCell_n43 : GoodIn wsX3_chanceAt (wsX10_isCell) := ggX3_chanceAt_X10_isCell
set_option maxRecDepth 20000 in
theorem ggX3_chanceAt_X2_chanceOf : GoodIn wsX3_chanceAt wsX2_chanceOf := goodIn_r _ [10] (by decide +kernel) (by decide +kernel)
set_option maxRecDepth 20000 in
theorem gX3_chanceAt_X2_chanceOf : GoodIn wsX3_chanceAt (va_wsS RX3 57 yX2_chanceOf wsX2_chanceOf) := goodIn_app (goodIn_of _ (by decide +kernel)) ggX3_chanceAt_X2_chanceOf
set_option maxRecDepth 20000 in
theorem ggX3_openCells_X3_isOpen : GoodIn wsX3_openCells wsX3_isOpen := goodIn_r _ [5, 6, 7, 8, 9, 10, 11, 12, 13, 14, 15, 16, 21, 22, 23, 24, 25, 26, 27, 28, 29, 30] (by decide +kernel) (by decide +kernel)
set_option maxRecDepth 20000 in
theorem gX3_openCells_X3_isOpen : GoodIn wsX3_openCells (wsV RX3 60 RX3 yX3_isOpen wsX3_isOpen) := goodIn_app (goodIn_of _ (by decide +kernel)) ggX3_openCells_X3_isOpen
set_option maxRecDepth 20000 in
theorem ggX3_openCells_X7_bit : GoodIn wsX3_openCells wsX7_bit := goodIn_r _ [20] (by decide +kernel) (by decide +kernel)
set_option maxRecDepth 20000 in
theorem gX3_openCells_X7_bit : GoodIn wsX3_openCells (va_wsS RX3 63 yX7_bit wsX7_bit) := goodIn_app (goodIn_of _ (by decide +kernel)) ggX3_openCells_X7_bit
set_option maxRecDepth 20000 in
theorem ggX3_sureCells_X3_chanceAt : GoodIn wsX3_sureCells wsX3_chanceAt := goodIn_r _ [5, 6, 7, 8, 9, 10, 11, 12, 13, 14, 15, 20, 21, 22, 23, 24, 25, 26, 27, 28, 29] (by decide +kernel) (by decide +kernel)
set_option maxRecDepth 20000 in
theorem gX3_sureCells_X3_chanceAt : GoodIn wsX3_sureCells (wsV RX3 69 RX3 yX3_chanceAt wsX3_chanceAt) := goodIn_app (goodIn_of _ (by decide +kernel)) ggX3_sureCells_X3_chanceAt
set_option maxRecDepth 20000 in
theorem ggX3_sureCells_X7_bit : GoodIn wsX3_sureCells wsX7_bit := goodIn_r _ [19] (by decide +kernel) (by decide +kernel)
set_option maxRecDepth 20000 in
theorem gX3_sureCells_X7_bit : GoodIn wsX3_sureCells (va_wsS RX3 63 yX7_bit wsX7_bit) := goodIn_app (goodIn_of _ (by decide +kernel)) ggX3_sureCells_X7_bit
set_option maxRecDepth 20000 in
theorem ggX3_unsureCells_X3_chanceAt : GoodIn wsX3_unsureCells wsX3_chanceAt := goodIn_r _ [5, 6, 7, 8, 9, 10, 11, 12, 13, 14, 15, 20, 21, 22, 23, 24, 25, 26, 27, 28, 29] (by decide +kernel) (by decide +kernel)
set_option maxRecDepth 20000 in
theorem gX3_unsureCells_X3_chanceAt : GoodIn wsX3_unsureCells (wsV RX3 69 RX3 yX3_chanceAt wsX3_chanceAt) := goodIn_app (goodIn_of _ (by decide +kernel)) ggX3_unsureCells_X3_chanceAt
set_option maxRecDepth 20000 in
theorem ggX3_unsureCells_X7_bit : GoodIn wsX3_unsureCells wsX7_bit := goodIn_r _ [19] (by decide +kernel) (by decide +kernel)
set_option maxRecDepth 20000 in
theorem gX3_unsureCells_X7_bit : GoodIn wsX3_unsureCells (va_wsS RX3 63 yX7_bit wsX7_bit) := goodIn_app (goodIn_of _ (by decide +kernel)) ggX3_unsureCells_X7_bit
set_option maxRecDepth 20000 in
theorem ggX3_farBetween_X7_apart : GoodIn wsX3_farBetween wsX7_apart := goodIn_r _ [8, 9, 2, 3, 4] (by decide +kernel) (by decide +kernel)
set_option maxRecDepth 20000 in
theorem gX3_farBetween_X7_apart : GoodIn wsX3_farBetween (va_wsS RX3 73 yX7_apart wsX7_apart) := goodIn_app (goodIn_of _ (by decide +kernel)) ggX3_farBetween_X7_apart
set_option maxRecDepth 20000 in
theorem ggX3_farBetween_X3_heightAt : GoodIn wsX3_farBetween wsX3_heightAt := goodIn_r _ [14, 15, 16, 17, 18, 19, 20, 21, 22, 23, 24, 25, 26, 27, 28, 29, 30, 31, 32, 33, 34] (by decide +kernel) (by decide +kernel)
set_option maxRecDepth 20000 in
theorem gX3_farBetween_X3_heightAt : GoodIn wsX3_farBetween (wsV RX3 76 RX3 yX3_heightAt wsX3_heightAt) := goodIn_app (goodIn_of _ (by decide +kernel)) ggX3_farBetween_X3_heightAt
set_option maxRecDepth 20000 in
theorem ggX3_layAt_X10_isCell : GoodIn wsX3_layAt wsX10_isCell := goodIn_r _ [5, 6] (by decide +kernel) (by decide +kernel)
set_option maxRecDepth 20000 in
theorem gX3_layAt_X10_isCell_n43 : GoodIn wsX3_layAt (wsX10_isCell) := ggX3_layAt_X10_isCell
set_option maxRecDepth 20000 in
theorem ggX3_cellBy_X7_cellTo : GoodIn wsX3_cellBy wsX7_cellTo := goodIn_r _ [4, 5, 6, 7, 8] (by decide +kernel) (by decide +kernel)
set_option maxRecDepth 20000 in
theorem gX3_cellBy_X7_cellTo : GoodIn wsX3_cellBy (va_wsS RX3 84 yX7_cellTo wsX7_cellTo) := goodIn_app (goodIn_of _ (by decide +kernel)) ggX3_cellBy_X7_cellTo
set_option maxRecDepth 20000 in
theorem ggX3_cellBy_X3_isOpen : GoodIn wsX3_cellBy wsX3_isOpen := goodIn_r _ [13, 14, 15, 16, 5, 6, 7, 8, 17, 18, 19, 20, 21, 22, 23, 24, 25, 26, 27, 28, 29, 30] (by decide +kernel) (by decide +kernel)
set_option maxRecDepth 20000 in
theorem gX3_cellBy_X3_isOpen : GoodIn wsX3_cellBy (wsV RX3 60 RX3 yX3_isOpen wsX3_isOpen) := goodIn_app (goodIn_of _ (by decide +kernel)) ggX3_cellBy_X3_isOpen
set_option maxRecDepth 20000 in
theorem ggX3_cellByOrStay_X3_cellBy : GoodIn wsX3_cellByOrStay wsX3_cellBy := goodIn_r _ [5, 6, 7, 8, 9, 10, 11, 12, 13, 14, 15, 16, 4, 17, 18, 19, 20, 21, 22, 23, 24, 25, 26, 27, 28, 29, 30, 31, 32, 33, 34] (by decide +kernel) (by decide +kernel)
set_option maxRecDepth 20000 in
theorem gX3_cellByOrStay_X3_cellBy : GoodIn wsX3_cellByOrStay (wsV RX3 87 RX3 yX3_cellBy wsX3_cellBy) := goodIn_app (goodIn_of _ (by decide +kernel)) ggX3_cellByOrStay_X3_cellBy
set_option maxRecDepth 20000 in
theorem ggX3_goDay_X3_cellBy : GoodIn wsX3_goDay wsX3_cellBy := goodIn_r _ [8, 9, 10, 11, 12, 13, 14, 15, 16, 17, 18, 19, 7, 20, 21, 22, 23, 24, 25, 26, 27, 55, 56, 57, 58, 59, 60, 61, 62, 63, 64] (by decide +kernel) (by decide +kernel)
set_option maxRecDepth 20000 in
theorem gX3_goDay_X3_cellBy : GoodIn wsX3_goDay (wsV RX3 87 RX3 yX3_cellBy wsX3_cellBy) := goodIn_app (goodIn_of _ (by decide +kernel)) ggX3_goDay_X3_cellBy
set_option maxRecDepth 20000 in
theorem ggX3_goDay_X3_endDay : GoodIn wsX3_goDay wsX3_endDay := goodIn_r _ [31, 1, 2, 32, 33, 34, 35, 36, 37, 38, 7, 39, 40, 41, 42, 43, 44, 45, 11, 46, 47, 48, 49, 50, 51, 21, 22, 13, 14, 15, 16, 52, 53, 26, 54, 55, 56, 57, 58, 59, 60, 61, 62, 63, 64] (by decide +kernel) (by decide +kernel)
set_option maxRecDepth 20000 in
theorem gX3_goDay_X3_endDay : GoodIn wsX3_goDay (wsV RX3 90 RX3 yX3_endDay wsX3_endDay) := goodIn_app (goodIn_of _ (by decide +kernel)) ggX3_goDay_X3_endDay
set_option maxRecDepth 20000 in
theorem ggX3_endDay_X3_farBetween : GoodIn wsX3_endDay wsX3_farBetween := goodIn_r _ [11, 12, 13, 14, 15, 16, 17, 18, 19, 20, 21, 22, 23, 10, 24, 25, 26, 27, 28, 29, 30, 31, 32, 33, 34, 35, 36, 37, 38, 39, 40, 41, 42, 43, 44] (by decide +kernel) (by decide +kernel)
set_option maxRecDepth 20000 in
theorem gX3_endDay_X3_farBetween : GoodIn wsX3_endDay (wsV RX3 94 RX3 yX3_farBetween wsX3_farBetween) := goodIn_app (goodIn_of _ (by decide +kernel)) ggX3_endDay_X3_farBetween
set_option maxRecDepth 20000 in
theorem ggX4_lay_X3_cellBy : GoodIn wsX4_lay wsX3_cellBy := goodIn_r _ [8, 9, 10, 11, 12, 13, 14, 15, 16, 17, 18, 19, 7, 20, 21, 22, 23, 24, 25, 26, 27, 47, 48, 49, 50, 51, 52, 53, 54, 55, 56] (by decide +kernel) (by decide +kernel)
set_option maxRecDepth 20000 in
theorem gX4_lay_X3_cellBy : GoodIn wsX4_lay (wsV RX4 21 RX3 yX3_cellBy wsX3_cellBy) := goodIn_app (goodIn_of _ (by decide +kernel)) ggX4_lay_X3_cellBy
set_option maxRecDepth 20000 in
theorem ggX4_lay_X3_farBetween : GoodIn wsX4_lay wsX3_farBetween := goodIn_r _ [31, 32, 33, 34, 35, 36, 37, 11, 38, 39, 40, 41, 42, 7, 43, 21, 22, 13, 14, 15, 16, 44, 45, 26, 46, 47, 48, 49, 50, 51, 52, 53, 54, 55, 56] (by decide +kernel) (by decide +kernel)
set_option maxRecDepth 20000 in
theorem gX4_lay_X3_farBetween : GoodIn wsX4_lay (wsV RX4 28 RX3 yX3_farBetween wsX3_farBetween) := goodIn_app (goodIn_of _ (by decide +kernel)) ggX4_lay_X3_farBetween
set_option maxRecDepth 20000 in
theorem ggX4_farOf_X10_isWay : GoodIn wsX4_farOf wsX10_isWay := goodIn_r _ [4] (by decide +kernel) (by decide +kernel)
set_option maxRecDepth 20000 in
theorem gX4_farOf_X10_isWay_n31 : GoodIn wsX4_farOf (wsX10_isWay) := ggX4_farOf_X10_isWay
set_option maxRecDepth 20000 in
theorem ggX4_firstHeld_X4_farOf : GoodIn wsX4_firstHeld wsX4_farOf := goodIn_r _ [5, 6, 7, 8, 9, 14] (by decide +kernel) (by decide +kernel)
set_option maxRecDepth 20000 in
theorem gX4_firstHeld_X4_farOf : GoodIn wsX4_firstHeld (wsV RX4 35 RX4 yX4_farOf wsX4_farOf) := goodIn_app (goodIn_of _ (by decide +kernel)) ggX4_firstHeld_X4_farOf
set_option maxRecDepth 20000 in
theorem ggX4_firstHeld_X4_isHeld : GoodIn wsX4_firstHeld wsX4_isHeld := goodIn_r _ [13, 1, 2, 3, 4, 5, 6, 7, 8, 9, 14] (by decide +kernel) (by decide +kernel)
set_option maxRecDepth 20000 in
theorem gX4_firstHeld_X4_isHeld : GoodIn wsX4_firstHeld (wsV RX4 38 RX4 yX4_isHeld wsX4_isHeld) := goodIn_app (goodIn_of _ (by decide +kernel)) ggX4_firstHeld_X4_isHeld
set_option maxRecDepth 20000 in
theorem ggX4_isHeld_X4_farOf : GoodIn wsX4_isHeld wsX4_farOf := goodIn_r _ [5, 6, 7, 8, 9, 10] (by decide +kernel) (by decide +kernel)
set_option maxRecDepth 20000 in
theorem gX4_isHeld_X4_farOf : GoodIn wsX4_isHeld (wsV RX4 35 RX4 yX4_farOf wsX4_farOf) := goodIn_app (goodIn_of _ (by decide +kernel)) ggX4_isHeld_X4_farOf
set_option maxRecDepth 20000 in
theorem ggX4_leastSure_X4_worstOf : GoodIn wsX4_leastSure wsX4_worstOf := goodIn_r _ [5, 6, 7, 8, 9, 10, 11, 12, 4, 13, 14, 15, 16, 17, 18] (by decide +kernel) (by decide +kernel)
set_option maxRecDepth 20000 in
theorem gX4_leastSure_X4_worstOf : GoodIn wsX4_leastSure (wsV RX4 42 RX4 yX4_worstOf wsX4_worstOf) := goodIn_app (goodIn_of _ (by decide +kernel)) ggX4_leastSure_X4_worstOf
set_option maxRecDepth 20000 in
theorem ggX4_worstOf_X4_farOf : GoodIn wsX4_worstOf wsX4_farOf := goodIn_r _ [9, 10, 11, 12, 13, 14] (by decide +kernel) (by decide +kernel)
set_option maxRecDepth 20000 in
theorem gX4_worstOf_X4_farOf : GoodIn wsX4_worstOf (wsV RX4 35 RX4 yX4_farOf wsX4_farOf) := goodIn_app (goodIn_of _ (by decide +kernel)) ggX4_worstOf_X4_farOf
set_option maxRecDepth 20000 in
theorem ggX5_takeRow_J7_fill_d0a16 : GoodIn wsX5_takeRow wsJ7_fill_d0a16 := goodIn_r _ [8] (by decide +kernel) (by decide +kernel)
set_option maxRecDepth 20000 in
theorem gX5_takeRow_J7_fill_d0a16 : GoodIn wsX5_takeRow (va_wsS RX5 31 yJ7_fill_d0a16 wsJ7_fill_d0a16) := goodIn_app (goodIn_of _ (by decide +kernel)) ggX5_takeRow_J7_fill_d0a16
set_option maxRecDepth 20000 in
theorem ggX6_likely_X3_sureCells : GoodIn wsX6_likely wsX3_sureCells := goodIn_r _ [9, 10, 11, 12, 8, 13, 14, 15, 16, 17, 18, 19, 20, 21, 22, 23, 24, 25, 26, 27, 62, 63, 64, 65, 66, 67, 68, 69, 70, 71] (by decide +kernel) (by decide +kernel)
set_option maxRecDepth 20000 in
theorem gX6_likely_X3_sureCells : GoodIn wsX6_likely (wsV RX6 9 RX3 yX3_sureCells wsX3_sureCells) := goodIn_app (goodIn_of _ (by decide +kernel)) ggX6_likely_X3_sureCells
set_option maxRecDepth 20000 in
theorem ggX6_likely_X3_unsureCells : GoodIn wsX6_likely wsX3_unsureCells := goodIn_r _ [31, 10, 11, 12, 8, 13, 14, 15, 16, 17, 18, 19, 20, 21, 22, 23, 24, 25, 26, 27, 62, 63, 64, 65, 66, 67, 68, 69, 70, 71] (by decide +kernel) (by decide +kernel)
set_option maxRecDepth 20000 in
theorem gX6_likely_X3_unsureCells : GoodIn wsX6_likely (wsV RX6 15 RX3 yX3_unsureCells wsX3_unsureCells) := goodIn_app (goodIn_of _ (by decide +kernel)) ggX6_likely_X3_unsureCells
set_option maxRecDepth 20000 in
theorem ggX6_likely_J13_bitCount_95d88 : GoodIn wsX6_likely wsJ13_bitCount_95d88 := goodIn_r _ [35, 36, 37, 38] (by decide +kernel) (by decide +kernel)
set_option maxRecDepth 20000 in
theorem gX6_likely_J13_bitCount_95d88 : GoodIn wsX6_likely (va_wsS RX6 18 yJ13_bitCount_95d88 wsJ13_bitCount_95d88) := goodIn_app (goodIn_of _ (by decide +kernel)) ggX6_likely_J13_bitCount_95d88
set_option maxRecDepth 20000 in
theorem ggX6_likely_X6_passableOf : GoodIn wsX6_likely wsX6_passableOf := goodIn_r _ [42, 43, 44, 26, 45, 46, 25, 27, 47] (by decide +kernel) (by decide +kernel)
set_option maxRecDepth 20000 in
theorem gX6_likely_X6_passableOf : GoodIn wsX6_likely (va_wsS RX6 32 yX6_passableOf wsX6_passableOf) := goodIn_app (goodIn_of _ (by decide +kernel)) ggX6_likely_X6_passableOf
set_option maxRecDepth 20000 in
theorem ggX6_likely_X7_stepsBetween : GoodIn wsX6_likely wsX7_stepsBetween := goodIn_r _ [50, 46, 25, 26, 27, 51, 44, 45, 52, 53, 54, 55, 56, 57] (by decide +kernel) (by decide +kernel)
set_option maxRecDepth 20000 in
theorem gX6_likely_X7_stepsBetween : GoodIn wsX6_likely (va_wsS RX6 36 yX7_stepsBetween wsX7_stepsBetween) := goodIn_app (goodIn_of _ (by decide +kernel)) ggX6_likely_X7_stepsBetween
set_option maxRecDepth 20000 in
theorem ggX6_likely_X6_weightOf : GoodIn wsX6_likely wsX6_weightOf := goodIn_r _ [60, 43, 44, 26, 45, 46, 25, 27, 61, 11, 12, 8, 13, 14, 15, 16, 17, 18, 19, 20, 21, 22, 23, 62, 63, 64, 65, 66, 67, 68, 69, 70, 71] (by decide +kernel) (by decide +kernel)
set_option maxRecDepth 20000 in
theorem gX6_likely_X6_weightOf : GoodIn wsX6_likely (va_wsS RX6 42 yX6_weightOf wsX6_weightOf) := goodIn_app (goodIn_of _ (by decide +kernel)) ggX6_likely_X6_weightOf
set_option maxRecDepth 20000 in
theorem ggX6_passableOf_X7_has : GoodIn wsX6_passableOf wsX7_has := goodIn_r _ [4, 5, 6, 3, 7] (by decide +kernel) (by decide +kernel)
set_option maxRecDepth 20000 in
theorem gX6_passableOf_X7_has : GoodIn wsX6_passableOf (va_wsS RX6 46 yX7_has wsX7_has) := goodIn_app (goodIn_of _ (by decide +kernel)) ggX6_passableOf_X7_has
set_option maxRecDepth 20000 in
theorem ggX6_passableOf_X7_bit : GoodIn wsX6_passableOf wsX7_bit := goodIn_r _ [7] (by decide +kernel) (by decide +kernel)
set_option maxRecDepth 20000 in
theorem gX6_passableOf_X7_bit : GoodIn wsX6_passableOf (va_wsS RX6 50 yX7_bit wsX7_bit) := goodIn_app (goodIn_of _ (by decide +kernel)) ggX6_passableOf_X7_bit
set_option maxRecDepth 20000 in
theorem ggX6_weightOf_X7_has : GoodIn wsX6_weightOf wsX7_has := goodIn_r _ [4, 5, 6, 3, 7] (by decide +kernel) (by decide +kernel)
set_option maxRecDepth 20000 in
theorem gX6_weightOf_X7_has : GoodIn wsX6_weightOf (va_wsS RX6 46 yX7_has wsX7_has) := goodIn_app (goodIn_of _ (by decide +kernel)) ggX6_weightOf_X7_has
set_option maxRecDepth 20000 in
theorem ggX6_weightOf_X3_chanceAt : GoodIn wsX6_weightOf wsX3_chanceAt := goodIn_r _ [12, 13, 14, 15, 16, 17, 18, 19, 20, 21, 22, 23, 24, 25, 26, 27, 28, 29, 30, 31, 32] (by decide +kernel) (by decide +kernel)
set_option maxRecDepth 20000 in
theorem gX6_weightOf_X3_chanceAt : GoodIn wsX6_weightOf (wsV RX6 54 RX3 yX3_chanceAt wsX3_chanceAt) := goodIn_app (goodIn_of _ (by decide +kernel)) ggX6_weightOf_X3_chanceAt
set_option maxRecDepth 20000 in
theorem ggX7_has_X7_bit : GoodIn wsX7_has wsX7_bit := goodIn_r _ [4] (by decide +kernel) (by decide +kernel)
set_option maxRecDepth 20000 in
theorem gX7_has_X7_bit : GoodIn wsX7_has (va_wsS RX7 11 yX7_bit wsX7_bit) := goodIn_app (goodIn_of _ (by decide +kernel)) ggX7_has_X7_bit
set_option maxRecDepth 20000 in
theorem ggX7_leastOf_X7_has : GoodIn wsX7_leastOf wsX7_has := goodIn_r _ [4, 5, 6, 3, 7] (by decide +kernel) (by decide +kernel)
set_option maxRecDepth 20000 in
theorem gX7_leastOf_X7_has : GoodIn wsX7_leastOf (va_wsS RX7 15 yX7_has wsX7_has) := goodIn_app (goodIn_of _ (by decide +kernel)) ggX7_leastOf_X7_has
set_option maxRecDepth 20000 in
theorem ggX7_cellTo_X10_isCell : GoodIn wsX7_cellTo wsX10_isCell := goodIn_r _ [3, 4] (by decide +kernel) (by decide +kernel)
set_option maxRecDepth 20000 in
theorem gX7_cellTo_X10_isCell_n25 : GoodIn wsX7_cellTo (wsX10_isCell) := ggX7_cellTo_X10_isCell
set_option maxRecDepth 20000 in
theorem ggX7_cellsWithin_X7_bit : GoodIn wsX7_cellsWithin wsX7_bit := goodIn_r _ [4] (by decide +kernel) (by decide +kernel)
set_option maxRecDepth 20000 in
theorem gX7_cellsWithin_X7_bit : GoodIn wsX7_cellsWithin (va_wsS RX7 11 yX7_bit wsX7_bit) := goodIn_app (goodIn_of _ (by decide +kernel)) ggX7_cellsWithin_X7_bit
set_option maxRecDepth 20000 in
theorem ggX7_cellsWithin_X7_spread : GoodIn wsX7_cellsWithin wsX7_spread := goodIn_r _ [7, 8, 9, 10] (by decide +kernel) (by decide +kernel)
set_option maxRecDepth 20000 in
theorem gX7_cellsWithin_X7_spread : GoodIn wsX7_cellsWithin (va_wsS RX7 35 yX7_spread wsX7_spread) := goodIn_app (goodIn_of _ (by decide +kernel)) ggX7_cellsWithin_X7_spread
set_option maxRecDepth 20000 in
theorem ggX7_islandOf_X7_cellsWithin : GoodIn wsX7_islandOf wsX7_cellsWithin := goodIn_r _ [4, 5, 6, 3, 7, 8, 9, 10, 11, 12, 13] (by decide +kernel) (by decide +kernel)
set_option maxRecDepth 20000 in
theorem gX7_islandOf_X7_cellsWithin : GoodIn wsX7_islandOf (va_wsS RX7 39 yX7_cellsWithin wsX7_cellsWithin) := goodIn_app (goodIn_of _ (by decide +kernel)) ggX7_islandOf_X7_cellsWithin
set_option maxRecDepth 20000 in
theorem ggX7_islandsOf_X7_has : GoodIn wsX7_islandsOf wsX7_has := goodIn_r _ [5, 6, 7, 4, 8] (by decide +kernel) (by decide +kernel)
set_option maxRecDepth 20000 in
theorem gX7_islandsOf_X7_has : GoodIn wsX7_islandsOf (va_wsS RX7 15 yX7_has wsX7_has) := goodIn_app (goodIn_of _ (by decide +kernel)) ggX7_islandsOf_X7_has
set_option maxRecDepth 20000 in
theorem ggX7_islandsOf_X7_islandOf : GoodIn wsX7_islandsOf wsX7_islandOf := goodIn_r _ [11, 12, 13, 4, 14, 6, 7, 8, 15, 16, 17, 18, 19, 20] (by decide +kernel) (by decide +kernel)
set_option maxRecDepth 20000 in
theorem gX7_islandsOf_X7_islandOf : GoodIn wsX7_islandsOf (va_wsS RX7 43 yX7_islandOf wsX7_islandOf) := goodIn_app (goodIn_of _ (by decide +kernel)) ggX7_islandsOf_X7_islandOf
set_option maxRecDepth 20000 in
theorem ggX7_largestIsland_X7_has : GoodIn wsX7_largestIsland wsX7_has := goodIn_r _ [5, 6, 7, 4, 8] (by decide +kernel) (by decide +kernel)
set_option maxRecDepth 20000 in
theorem gX7_largestIsland_X7_has : GoodIn wsX7_largestIsland (va_wsS RX7 15 yX7_has wsX7_has) := goodIn_app (goodIn_of _ (by decide +kernel)) ggX7_largestIsland_X7_has
set_option maxRecDepth 20000 in
theorem ggX7_largestIsland_X7_islandOf : GoodIn wsX7_largestIsland wsX7_islandOf := goodIn_r _ [11, 12, 13, 4, 14, 6, 7, 8, 15, 16, 17, 18, 19, 20] (by decide +kernel) (by decide +kernel)
set_option maxRecDepth 20000 in
theorem gX7_largestIsland_X7_islandOf : GoodIn wsX7_largestIsland (va_wsS RX7 43 yX7_islandOf wsX7_islandOf) := goodIn_app (goodIn_of _ (by decide +kernel)) ggX7_largestIsland_X7_islandOf
set_option maxRecDepth 20000 in
theorem ggX7_largestIsland_J13_bitCount_95d88 : GoodIn wsX7_largestIsland wsJ13_bitCount_95d88 := goodIn_r _ [24, 25, 26, 27] (by decide +kernel) (by decide +kernel)
set_option maxRecDepth 20000 in
theorem gX7_largestIsland_J13_bitCount_95d88 : GoodIn wsX7_largestIsland (va_wsS RX7 49 yJ13_bitCount_95d88 wsJ13_bitCount_95d88) := goodIn_app (goodIn_of _ (by decide +kernel)) ggX7_largestIsland_J13_bitCount_95d88
set_option maxRecDepth 20000 in
theorem ggX7_stepsBetween_X7_bit : GoodIn wsX7_stepsBetween wsX7_bit := goodIn_r _ [4] (by decide +kernel) (by decide +kernel)
set_option maxRecDepth 20000 in
theorem gX7_stepsBetween_X7_bit : GoodIn wsX7_stepsBetween (va_wsS RX7 11 yX7_bit wsX7_bit) := goodIn_app (goodIn_of _ (by decide +kernel)) ggX7_stepsBetween_X7_bit
set_option maxRecDepth 20000 in
theorem ggX7_stepsBetween_X7_has : GoodIn wsX7_stepsBetween wsX7_has := goodIn_r _ [7, 1, 2, 3, 4] (by decide +kernel) (by decide +kernel)
set_option maxRecDepth 20000 in
theorem gX7_stepsBetween_X7_has : GoodIn wsX7_stepsBetween (va_wsS RX7 15 yX7_has wsX7_has) := goodIn_app (goodIn_of _ (by decide +kernel)) ggX7_stepsBetween_X7_has
set_option maxRecDepth 20000 in
theorem ggX7_stepsBetween_X7_spread : GoodIn wsX7_stepsBetween wsX7_spread := goodIn_r _ [10, 11, 12, 13] (by decide +kernel) (by decide +kernel)
set_option maxRecDepth 20000 in
theorem gX7_stepsBetween_X7_spread : GoodIn wsX7_stepsBetween (va_wsS RX7 35 yX7_spread wsX7_spread) := goodIn_app (goodIn_of _ (by decide +kernel)) ggX7_stepsBetween_X7_spread
set_option maxRecDepth 20000 in
theorem ggX7_greatestSteps_X7_bit : GoodIn wsX7_greatestSteps wsX7_bit := goodIn_r _ [4] (by decide +kernel) (by decide +kernel)
set_option maxRecDepth 20000 in
theorem gX7_greatestSteps_X7_bit : GoodIn wsX7_greatestSteps (va_wsS RX7 11 yX7_bit wsX7_bit) := goodIn_app (goodIn_of _ (by decide +kernel)) ggX7_greatestSteps_X7_bit
set_option maxRecDepth 20000 in
theorem ggX7_greatestSteps_X7_spread : GoodIn wsX7_greatestSteps wsX7_spread := goodIn_r _ [7, 8, 9, 10] (by decide +kernel) (by decide +kernel)
set_option maxRecDepth 20000 in
theorem gX7_greatestSteps_X7_spread : GoodIn wsX7_greatestSteps (va_wsS RX7 35 yX7_spread wsX7_spread) := goodIn_app (goodIn_of _ (by decide +kernel)) ggX7_greatestSteps_X7_spread
set_option maxRecDepth 20000 in
theorem ggX7_middleOf_X7_largestIsland : GoodIn wsX7_middleOf wsX7_largestIsland := goodIn_r _ [4, 5, 6, 7, 3, 8, 9, 10, 11, 12, 13, 14, 15, 16, 17, 18, 19, 20, 21, 22, 23, 24, 25, 26, 27, 28, 29, 30] (by decide +kernel) (by decide +kernel)
set_option maxRecDepth 20000 in
theorem gX7_middleOf_X7_largestIsland : GoodIn wsX7_middleOf (va_wsS RX7 55 yX7_largestIsland wsX7_largestIsland) := goodIn_app (goodIn_of _ (by decide +kernel)) ggX7_middleOf_X7_largestIsland
set_option maxRecDepth 20000 in
theorem ggX7_middleOf_X7_has : GoodIn wsX7_middleOf wsX7_has := goodIn_r _ [8, 9, 10, 3, 11] (by decide +kernel) (by decide +kernel)
set_option maxRecDepth 20000 in
theorem gX7_middleOf_X7_has : GoodIn wsX7_middleOf (va_wsS RX7 15 yX7_has wsX7_has) := goodIn_app (goodIn_of _ (by decide +kernel)) ggX7_middleOf_X7_has
set_option maxRecDepth 20000 in
theorem ggX7_middleOf_X7_greatestSteps : GoodIn wsX7_middleOf wsX7_greatestSteps := goodIn_r _ [33, 9, 10, 3, 11, 18, 19, 20, 21, 22, 23] (by decide +kernel) (by decide +kernel)
set_option maxRecDepth 20000 in
theorem gX7_middleOf_X7_greatestSteps : GoodIn wsX7_middleOf (va_wsS RX7 58 yX7_greatestSteps wsX7_greatestSteps) := goodIn_app (goodIn_of _ (by decide +kernel)) ggX7_middleOf_X7_greatestSteps
set_option maxRecDepth 20000 in
theorem ggX8_firstWrongByte_X5_numberAt : GoodIn wsX8_firstWrongByte wsX5_numberAt := goodIn_r _ [9, 10, 11, 16, 17, 18, 19, 20, 21] (by decide +kernel) (by decide +kernel)
set_option maxRecDepth 20000 in
theorem gX8_firstWrongByte_X5_numberAt : GoodIn wsX8_firstWrongByte (wsV RX8 17 RX5 yX5_numberAt wsX5_numberAt) := goodIn_app (goodIn_of _ (by decide +kernel)) ggX8_firstWrongByte_X5_numberAt
set_option maxRecDepth 20000 in
theorem ggX8_firstWrongByte_X8_digitsBehind : GoodIn wsX8_firstWrongByte wsX8_digitsBehind := goodIn_r _ [15] (by decide +kernel) (by decide +kernel)
set_option maxRecDepth 20000 in
theorem gX8_firstWrongByte_X8_digitsBehind : GoodIn wsX8_firstWrongByte (va_wsS RX8 21 yX8_digitsBehind wsX8_digitsBehind) := goodIn_app (goodIn_of _ (by decide +kernel)) ggX8_firstWrongByte_X8_digitsBehind
set_option maxRecDepth 20000 in
theorem ggX8_statementsOf_X5_numberAt : GoodIn wsX8_statementsOf wsX5_numberAt := goodIn_r _ [7, 8, 9, 10, 11, 12, 13, 14, 15] (by decide +kernel) (by decide +kernel)
set_option maxRecDepth 20000 in
theorem gX8_statementsOf_X5_numberAt : GoodIn wsX8_statementsOf (wsV RX8 17 RX5 yX5_numberAt wsX5_numberAt) := goodIn_app (goodIn_of _ (by decide +kernel)) ggX8_statementsOf_X5_numberAt
set_option maxRecDepth 20000 in
theorem ggX8_firstNotDone_X5_numberAt : GoodIn wsX8_firstNotDone wsX5_numberAt := goodIn_r _ [7, 8, 9, 109, 110, 111, 112, 113, 114] (by decide +kernel) (by decide +kernel)
set_option maxRecDepth 20000 in
theorem gX8_firstNotDone_X5_numberAt : GoodIn wsX8_firstNotDone (wsV RX8 17 RX5 yX5_numberAt wsX5_numberAt) := goodIn_app (goodIn_of _ (by decide +kernel)) ggX8_firstNotDone_X5_numberAt
set_option maxRecDepth 20000 in
theorem ggX8_firstNotDone_X8_isDone : GoodIn wsX8_firstNotDone wsX8_isDone := goodIn_r _ [13, 3, 4, 5, 6, 7, 8, 9, 14, 15, 12, 16, 17, 18, 19, 20, 21, 22, 23, 24, 25, 26, 27, 28, 29, 30, 31, 32, 33, 34, 35, 36, 37, 38, 39, 40, 41, 42, 43, 44, 45, 46, 47, 48, 49, 50, 51, 52, 53, 54, 55, 56, 57, 58, 59, 60, 61, 62, 63, 64, 65, 66, 67, 68, 69, 70, 71, 72, 73, 74, 75, 76, 77, 78, 79, 80, 81, 82, 83, 84, 85, 86, 87, 88, 89, 90, 91, 92, 93, 94, 95, 96, 97, 98, 99, 100, 101, 102, 103, 104, 105, 106, 107, 108, 109, 110, 111, 112, 113, 114, 115, 116, 117, 118, 119, 120, 121, 122, 123, 124] (by decide +kernel) (by decide +kernel)
set_option maxRecDepth 20000 in
theorem gX8_firstNotDone_X8_isDone : GoodIn wsX8_firstNotDone (va_wsS RX8 31 yX8_isDone wsX8_isDone) := goodIn_app (goodIn_of _ (by decide +kernel)) ggX8_firstNotDone_X8_isDone
set_option maxRecDepth 20000 in
theorem ggX8_digitAt_X5_numberAt : GoodIn wsX8_digitAt wsX5_numberAt := goodIn_r _ [5, 6, 7, 8, 9, 10, 11, 12, 13] (by decide +kernel) (by decide +kernel)
set_option maxRecDepth 20000 in
theorem gX8_digitAt_X5_numberAt : GoodIn wsX8_digitAt (wsV RX8 17 RX5 yX5_numberAt wsX5_numberAt) := goodIn_app (goodIn_of _ (by decide +kernel)) ggX8_digitAt_X5_numberAt
set_option maxRecDepth 20000 in
theorem ggX8_twoDigitsAt_X8_digitAt : GoodIn wsX8_twoDigitsAt wsX8_digitAt := goodIn_r _ [4, 5, 6, 7, 8, 9, 10, 11, 12, 13, 14, 15, 16, 17] (by decide +kernel) (by decide +kernel)
set_option maxRecDepth 20000 in
theorem gX8_twoDigitsAt_X8_digitAt : GoodIn wsX8_twoDigitsAt (va_wsS RX8 35 yX8_digitAt wsX8_digitAt) := goodIn_app (goodIn_of _ (by decide +kernel)) ggX8_twoDigitsAt_X8_digitAt
set_option maxRecDepth 20000 in
theorem ggX8_isDone_X5_numberAt : GoodIn wsX8_isDone wsX5_numberAt := goodIn_r _ [5, 6, 7, 104, 105, 106, 107, 108, 109] (by decide +kernel) (by decide +kernel)
set_option maxRecDepth 20000 in
theorem gX8_isDone_X5_numberAt : GoodIn wsX8_isDone (wsV RX8 17 RX5 yX5_numberAt wsX5_numberAt) := goodIn_app (goodIn_of _ (by decide +kernel)) ggX8_isDone_X5_numberAt
set_option maxRecDepth 20000 in
theorem ggX8_isDone_X8_isLaid : GoodIn wsX8_isDone wsX8_isLaid := goodIn_r _ [11, 12, 13, 10, 14, 1, 2, 3, 4, 5, 6, 7, 15, 16, 17, 18, 19, 20, 21, 22, 23, 24, 25, 26, 27, 28, 29, 30, 31, 32, 104, 105, 106, 107, 108, 109, 110, 111, 112, 113, 114, 115, 116, 117, 118, 119] (by decide +kernel) (by decide +kernel)
set_option maxRecDepth 20000 in
theorem gX8_isDone_X8_isLaid : GoodIn wsX8_isDone (va_wsS RX8 39 yX8_isLaid wsX8_isLaid) := goodIn_app (goodIn_of _ (by decide +kernel)) ggX8_isDone_X8_isLaid
set_option maxRecDepth 20000 in
theorem ggX8_isDone_X8_twoDigitsAt : GoodIn wsX8_isDone wsX8_twoDigitsAt := goodIn_r _ [17, 12, 13, 10, 14, 1, 2, 3, 4, 5, 6, 7, 104, 105, 106, 107, 108, 109] (by decide +kernel) (by decide +kernel)
set_option maxRecDepth 20000 in
theorem gX8_isDone_X8_twoDigitsAt : GoodIn wsX8_isDone (va_wsS RX8 42 yX8_twoDigitsAt wsX8_twoDigitsAt) := goodIn_app (goodIn_of _ (by decide +kernel)) ggX8_isDone_X8_twoDigitsAt
set_option maxRecDepth 20000 in
theorem ggX8_isDone_X8_isPlaced : GoodIn wsX8_isDone wsX8_isPlaced := goodIn_r _ [35, 36, 37, 38, 29, 39, 31, 32, 40, 22, 23, 24, 25, 41, 42, 20, 43, 44, 45, 46, 47, 48, 49, 110, 111, 112, 113, 114, 115, 116, 117, 118, 119] (by decide +kernel) (by decide +kernel)
set_option maxRecDepth 20000 in
theorem gX8_isDone_X8_isPlaced : GoodIn wsX8_isDone (va_wsS RX8 45 yX8_isPlaced wsX8_isPlaced) := goodIn_app (goodIn_of _ (by decide +kernel)) ggX8_isDone_X8_isPlaced
set_option maxRecDepth 20000 in
theorem ggX8_isDone_X8_isBound : GoodIn wsX8_isDone wsX8_isBound := goodIn_r _ [52, 53, 54, 15, 16, 10, 17, 12, 13, 14, 1, 2, 3, 4, 5, 6, 7, 55, 23, 56, 110, 111, 112, 113, 114, 115, 116, 117, 118, 119, 104, 105, 106, 107, 108, 109] (by decide +kernel) (by decide +kernel)
set_option maxRecDepth 20000 in
theorem gX8_isDone_X8_isBound : GoodIn wsX8_isDone (va_wsS RX8 49 yX8_isBound wsX8_isBound) := goodIn_app (goodIn_of _ (by decide +kernel)) ggX8_isDone_X8_isBound
set_option maxRecDepth 20000 in
theorem ggX8_isDone_X8_digitAt : GoodIn wsX8_isDone wsX8_digitAt := goodIn_r _ [14, 1, 2, 3, 4, 5, 6, 7, 104, 105, 106, 107, 108, 109] (by decide +kernel) (by decide +kernel)
set_option maxRecDepth 20000 in
theorem gX8_isDone_X8_digitAt : GoodIn wsX8_isDone (va_wsS RX8 35 yX8_digitAt wsX8_digitAt) := goodIn_app (goodIn_of _ (by decide +kernel)) ggX8_isDone_X8_digitAt
set_option maxRecDepth 20000 in
theorem ggX8_isDone_X8_isWintered : GoodIn wsX8_isDone wsX8_isWintered := goodIn_r _ [59, 60, 61, 23, 62, 110, 111, 112, 113, 114, 115, 116, 117, 118, 119] (by decide +kernel) (by decide +kernel)
set_option maxRecDepth 20000 in
theorem gX8_isDone_X8_isWintered : GoodIn wsX8_isDone (va_wsS RX8 52 yX8_isWintered wsX8_isWintered) := goodIn_app (goodIn_of _ (by decide +kernel)) ggX8_isDone_X8_isWintered
set_option maxRecDepth 20000 in
theorem ggX8_isDone_X3_goDay : GoodIn wsX8_isDone wsX3_goDay := goodIn_r _ [66, 48, 49, 67, 68, 69, 70, 29, 71, 72, 73, 74, 75, 22, 23, 24, 25, 76, 37, 38, 39, 31, 32, 40, 41, 42, 20, 43, 77, 78, 79, 80, 81, 82, 83, 84, 85, 86, 87, 88, 89, 90, 91, 92, 93, 94, 95, 96, 97, 98, 99, 100, 101, 102, 103, 110, 111, 112, 113, 114, 115, 116, 117, 118, 119] (by decide +kernel) (by decide +kernel)
set_option maxRecDepth 20000 in
theorem gX8_isDone_X3_goDay : GoodIn wsX8_isDone (wsV RX8 56 RX3 yX3_goDay wsX3_goDay) := goodIn_app (goodIn_of _ (by decide +kernel)) ggX8_isDone_X3_goDay
set_option maxRecDepth 20000 in
theorem ggX8_isLaid_X8_digitAt : GoodIn wsX8_isLaid wsX8_digitAt := goodIn_r _ [4, 5, 6, 7, 8, 9, 10, 11, 30, 31, 32, 33, 34, 35] (by decide +kernel) (by decide +kernel)
set_option maxRecDepth 20000 in
theorem gX8_isLaid_X8_digitAt : GoodIn wsX8_isLaid (va_wsS RX8 35 yX8_digitAt wsX8_digitAt) := goodIn_app (goodIn_of _ (by decide +kernel)) ggX8_isLaid_X8_digitAt
set_option maxRecDepth 20000 in
theorem ggX8_isLaid_X8_twoDigitsAt : GoodIn wsX8_isLaid wsX8_twoDigitsAt := goodIn_r _ [14, 1, 2, 3, 4, 5, 6, 7, 8, 9, 10, 11, 30, 31, 32, 33, 34, 35] (by decide +kernel) (by decide +kernel)
set_option maxRecDepth 20000 in
theorem gX8_isLaid_X8_twoDigitsAt : GoodIn wsX8_isLaid (va_wsS RX8 42 yX8_twoDigitsAt wsX8_twoDigitsAt) := goodIn_app (goodIn_of _ (by decide +kernel)) ggX8_isLaid_X8_twoDigitsAt
set_option maxRecDepth 20000 in
theorem ggX8_isLaid_X2_isKind : GoodIn wsX8_isLaid wsX2_isKind := goodIn_r _ [18] (by decide +kernel) (by decide +kernel)
set_option maxRecDepth 20000 in
theorem gX8_isLaid_X2_isKind : GoodIn wsX8_isLaid (va_wsS RX8 62 yX2_isKind wsX2_isKind) := goodIn_app (goodIn_of _ (by decide +kernel)) ggX8_isLaid_X2_isKind
set_option maxRecDepth 20000 in
theorem ggX8_isLaid_X10_isCell : GoodIn wsX8_isLaid wsX10_isCell := goodIn_r _ [21, 22] (by decide +kernel) (by decide +kernel)
set_option maxRecDepth 20000 in
theorem gX8_isLaid_X10_isCell_n68 : GoodIn wsX8_isLaid (wsX10_isCell) := ggX8_isLaid_X10_isCell
set_option maxRecDepth 20000 in
theorem ggX8_isLaid_X3_layAt : GoodIn wsX8_isLaid wsX3_layAt := goodIn_r _ [27, 28, 29, 19, 20, 21, 22, 36, 37, 38, 39, 40, 41, 42, 43, 44, 45] (by decide +kernel) (by decide +kernel)
set_option maxRecDepth 20000 in
theorem gX8_isLaid_X3_layAt : GoodIn wsX8_isLaid (wsV RX8 72 RX3 yX3_layAt wsX3_layAt) := goodIn_app (goodIn_of _ (by decide +kernel)) ggX8_isLaid_X3_layAt
set_option maxRecDepth 20000 in
theorem ggX8_isPlaced_X3_isOpen : GoodIn wsX8_isPlaced wsX3_isOpen := goodIn_r _ [5, 6, 7, 8, 9, 10, 11, 12, 13, 14, 15, 16, 23, 24, 25, 26, 27, 28, 29, 30, 31, 32] (by decide +kernel) (by decide +kernel)
set_option maxRecDepth 20000 in
theorem gX8_isPlaced_X3_isOpen : GoodIn wsX8_isPlaced (wsV RX8 76 RX3 yX3_isOpen wsX3_isOpen) := goodIn_app (goodIn_of _ (by decide +kernel)) ggX8_isPlaced_X3_isOpen
set_option maxRecDepth 20000 in
theorem ggX8_isPlaced_X3_place : GoodIn wsX8_isPlaced wsX3_place := goodIn_r _ [20, 21, 22, 23, 24, 25, 26, 27, 28, 29, 30, 31, 32] (by decide +kernel) (by decide +kernel)
set_option maxRecDepth 20000 in
theorem gX8_isPlaced_X3_place : GoodIn wsX8_isPlaced (wsV RX8 79 RX3 yX3_place wsX3_place) := goodIn_app (goodIn_of _ (by decide +kernel)) ggX8_isPlaced_X3_place
set_option maxRecDepth 20000 in
theorem ggX8_isBound_X8_twoDigitsAt : GoodIn wsX8_isBound wsX8_twoDigitsAt := goodIn_r _ [6, 7, 8, 5, 9, 10, 11, 12, 13, 14, 15, 16, 30, 31, 32, 33, 34, 35] (by decide +kernel) (by decide +kernel)
set_option maxRecDepth 20000 in
theorem gX8_isBound_X8_twoDigitsAt : GoodIn wsX8_isBound (va_wsS RX8 42 yX8_twoDigitsAt wsX8_twoDigitsAt) := goodIn_app (goodIn_of _ (by decide +kernel)) ggX8_isBound_X8_twoDigitsAt
set_option maxRecDepth 20000 in
theorem ggX8_isBound_X10_isDistance : GoodIn wsX8_isBound wsX10_isDistance := goodIn_r _ [19] (by decide +kernel) (by decide +kernel)
set_option maxRecDepth 20000 in
theorem gX8_isBound_X10_isDistance_n83 : GoodIn wsX8_isBound (wsX10_isDistance) := ggX8_isBound_X10_isDistance
set_option maxRecDepth 20000 in
theorem ggX8_isWintered_X10_isEither : GoodIn wsX8_isWintered wsX10_isEither := goodIn_r _ [4] (by decide +kernel) (by decide +kernel)
set_option maxRecDepth 20000 in
theorem gX8_isWintered_X10_isEither_n92 : GoodIn wsX8_isWintered (wsX10_isEither) := ggX8_isWintered_X10_isEither
set_option maxRecDepth 20000 in
theorem ggX9_isOfCells_X5_numberAt : GoodIn wsX9_isOfCells wsX5_numberAt := goodIn_r _ [6, 7, 8, 13, 14, 15, 16, 17, 18] (by decide +kernel) (by decide +kernel)
set_option maxRecDepth 20000 in
theorem gX9_isOfCells_X5_numberAt : GoodIn wsX9_isOfCells (wsV RX9 27 RX5 yX5_numberAt wsX5_numberAt) := goodIn_app (goodIn_of _ (by decide +kernel)) ggX9_isOfCells_X5_numberAt
set_option maxRecDepth 20000 in
theorem ggX9_isOfCells_X10_isCell : GoodIn wsX9_isOfCells wsX10_isCell := goodIn_r _ [11, 12] (by decide +kernel) (by decide +kernel)
set_option maxRecDepth 20000 in
theorem gX9_isOfCells_X10_isCell_n31 : GoodIn wsX9_isOfCells (wsX10_isCell) := ggX9_isOfCells_X10_isCell
set_option maxRecDepth 20000 in
theorem ggX9_firstWrongPlace_X3_openCells : GoodIn wsX9_firstWrongPlace wsX3_openCells := goodIn_r _ [7, 8, 9, 10, 6, 11, 12, 13, 14, 15, 16, 17, 18, 19, 20, 21, 22, 23, 24, 25, 26, 49, 50, 51, 52, 53, 54, 55, 56, 57, 58] (by decide +kernel) (by decide +kernel)
set_option maxRecDepth 20000 in
theorem gX9_firstWrongPlace_X3_openCells : GoodIn wsX9_firstWrongPlace (wsV RX9 35 RX3 yX3_openCells wsX3_openCells) := goodIn_app (goodIn_of _ (by decide +kernel)) ggX9_firstWrongPlace_X3_openCells
set_option maxRecDepth 20000 in
theorem ggX9_firstWrongPlace_X7_bit : GoodIn wsX9_firstWrongPlace wsX7_bit := goodIn_r _ [26] (by decide +kernel) (by decide +kernel)
set_option maxRecDepth 20000 in
theorem gX9_firstWrongPlace_X7_bit : GoodIn wsX9_firstWrongPlace (va_wsS RX9 44 yX7_bit wsX7_bit) := goodIn_app (goodIn_of _ (by decide +kernel)) ggX9_firstWrongPlace_X7_bit
set_option maxRecDepth 20000 in
theorem ggX9_firstWrongPlace_X5_numberAt : GoodIn wsX9_firstWrongPlace wsX5_numberAt := goodIn_r _ [32, 33, 34, 59, 60, 61, 62, 63, 64] (by decide +kernel) (by decide +kernel)
set_option maxRecDepth 20000 in
theorem gX9_firstWrongPlace_X5_numberAt : GoodIn wsX9_firstWrongPlace (wsV RX9 27 RX5 yX5_numberAt wsX5_numberAt) := goodIn_app (goodIn_of _ (by decide +kernel)) ggX9_firstWrongPlace_X5_numberAt
set_option maxRecDepth 20000 in
theorem ggX9_firstWrongPlace_X7_spread : GoodIn wsX9_firstWrongPlace wsX7_spread := goodIn_r _ [37, 38, 39, 40] (by decide +kernel) (by decide +kernel)
set_option maxRecDepth 20000 in
theorem gX9_firstWrongPlace_X7_spread : GoodIn wsX9_firstWrongPlace (va_wsS RX9 49 yX7_spread wsX7_spread) := goodIn_app (goodIn_of _ (by decide +kernel)) ggX9_firstWrongPlace_X7_spread
set_option maxRecDepth 20000 in
theorem ggX9_firstWrongPlace_X5_leastNumber : GoodIn wsX9_firstWrongPlace wsX5_leastNumber := goodIn_r _ [44, 45, 46, 47, 48, 59, 60, 61, 62, 63, 64] (by decide +kernel) (by decide +kernel)
set_option maxRecDepth 20000 in
theorem gX9_firstWrongPlace_X5_leastNumber : GoodIn wsX9_firstWrongPlace (wsV RX9 53 RX5 yX5_leastNumber wsX5_leastNumber) := goodIn_app (goodIn_of _ (by decide +kernel)) ggX9_firstWrongPlace_X5_leastNumber
set_option maxRecDepth 20000 in
theorem ggX9_firstWrongPlace_X10_isCell : GoodIn wsX9_firstWrongPlace wsX10_isCell := goodIn_r _ [17, 18] (by decide +kernel) (by decide +kernel)
set_option maxRecDepth 20000 in
theorem gX9_firstWrongPlace_X10_isCell_n31 : GoodIn wsX9_firstWrongPlace (wsX10_isCell) := ggX9_firstWrongPlace_X10_isCell
set_option maxRecDepth 20000 in
theorem ggX9_fitOn_X5_numberAt : GoodIn wsX9_fitOn wsX5_numberAt := goodIn_r _ [5, 6, 7, 18, 19, 20, 21, 22, 23] (by decide +kernel) (by decide +kernel)
set_option maxRecDepth 20000 in
theorem gX9_fitOn_X5_numberAt : GoodIn wsX9_fitOn (wsV RX9 27 RX5 yX5_numberAt wsX5_numberAt) := goodIn_app (goodIn_of _ (by decide +kernel)) ggX9_fitOn_X5_numberAt
set_option maxRecDepth 20000 in
theorem ggX9_fitOn_X0_nearOf : GoodIn wsX9_fitOn wsX0_nearOf := goodIn_r _ [12, 13, 14, 15, 16, 17, 24, 25, 26, 27, 28, 29, 30, 31, 32] (by decide +kernel) (by decide +kernel)
set_option maxRecDepth 20000 in
theorem gX9_fitOn_X0_nearOf : GoodIn wsX9_fitOn (wsV RX9 56 RX0 yX0_nearOf wsX0_nearOf) := goodIn_app (goodIn_of _ (by decide +kernel)) ggX9_fitOn_X0_nearOf
set_option maxRecDepth 20000 in
theorem ggX9_follow_X7_spread : GoodIn wsX9_follow wsX7_spread := goodIn_r _ [6, 7, 8, 9] (by decide +kernel) (by decide +kernel)
set_option maxRecDepth 20000 in
theorem gX9_follow_X7_spread : GoodIn wsX9_follow (va_wsS RX9 49 yX7_spread wsX7_spread) := goodIn_app (goodIn_of _ (by decide +kernel)) ggX9_follow_X7_spread
set_option maxRecDepth 20000 in
theorem ggX9_follow_X9_fitOn : GoodIn wsX9_follow wsX9_fitOn := goodIn_r _ [13, 14, 15, 16, 17, 18, 19, 20, 21, 22, 23, 24, 25, 26, 27, 28, 29, 30, 31, 32, 33, 34, 35, 36, 40, 41, 42, 43, 44, 45, 46, 47, 48] (by decide +kernel) (by decide +kernel)
set_option maxRecDepth 20000 in
theorem gX9_follow_X9_fitOn : GoodIn wsX9_follow (va_wsS RX9 61 yX9_fitOn wsX9_fitOn) := goodIn_app (goodIn_of _ (by decide +kernel)) ggX9_follow_X9_fitOn
set_option maxRecDepth 20000 in
theorem ggX9_bestDay_X9_fitOn : GoodIn wsX9_bestDay wsX9_fitOn := goodIn_r _ [12, 13, 14, 15, 16, 17, 18, 19, 20, 21, 22, 23, 24, 25, 26, 27, 28, 29, 59, 60, 61, 62, 63, 64, 68, 69, 70, 71, 72, 73, 74, 75, 76] (by decide +kernel) (by decide +kernel)
set_option maxRecDepth 20000 in
theorem gX9_bestDay_X9_fitOn : GoodIn wsX9_bestDay (va_wsS RX9 61 yX9_fitOn wsX9_fitOn) := goodIn_app (goodIn_of _ (by decide +kernel)) ggX9_bestDay_X9_fitOn
set_option maxRecDepth 20000 in
theorem ggX9_bestDay_X7_bit : GoodIn wsX9_bestDay wsX7_bit := goodIn_r _ [33] (by decide +kernel) (by decide +kernel)
set_option maxRecDepth 20000 in
theorem gX9_bestDay_X7_bit : GoodIn wsX9_bestDay (va_wsS RX9 44 yX7_bit wsX7_bit) := goodIn_app (goodIn_of _ (by decide +kernel)) ggX9_bestDay_X7_bit
set_option maxRecDepth 20000 in
theorem ggX9_bestDay_X9_leftAround : GoodIn wsX9_bestDay wsX9_leftAround := goodIn_r _ [37, 7, 38, 39, 32, 40, 26, 27, 28, 29, 65, 66, 67] (by decide +kernel) (by decide +kernel)
set_option maxRecDepth 20000 in
theorem gX9_bestDay_X9_leftAround : GoodIn wsX9_bestDay (wsV RX9 71 RX9 yX9_leftAround wsX9_leftAround) := goodIn_app (goodIn_of _ (by decide +kernel)) ggX9_bestDay_X9_leftAround
set_option maxRecDepth 20000 in
theorem ggX9_bestDay_X7_has : GoodIn wsX9_bestDay wsX7_has := goodIn_r _ [43, 44, 31, 32, 33] (by decide +kernel) (by decide +kernel)
set_option maxRecDepth 20000 in
theorem gX9_bestDay_X7_has : GoodIn wsX9_bestDay (va_wsS RX9 74 yX7_has wsX7_has) := goodIn_app (goodIn_of _ (by decide +kernel)) ggX9_bestDay_X7_has
set_option maxRecDepth 20000 in
theorem ggX9_bestDay_X9_worstOf : GoodIn wsX9_bestDay wsX9_worstOf := goodIn_r _ [48, 7, 49, 50, 4, 51, 41, 42, 32, 43, 44, 31, 33, 52, 53, 54, 55, 56, 57, 58, 65, 66, 67] (by decide +kernel) (by decide +kernel)
set_option maxRecDepth 20000 in
theorem gX9_bestDay_X9_worstOf : GoodIn wsX9_bestDay (wsV RX9 78 RX9 yX9_worstOf wsX9_worstOf) := goodIn_app (goodIn_of _ (by decide +kernel)) ggX9_bestDay_X9_worstOf
set_option maxRecDepth 20000 in
theorem ggX9_leftAround_X7_cellTo : GoodIn wsX9_leftAround wsX7_cellTo := goodIn_r _ [5, 6, 7, 8, 9] (by decide +kernel) (by decide +kernel)
set_option maxRecDepth 20000 in
theorem gX9_leftAround_X7_cellTo : GoodIn wsX9_leftAround (va_wsS RX9 82 yX7_cellTo wsX7_cellTo) := goodIn_app (goodIn_of _ (by decide +kernel)) ggX9_leftAround_X7_cellTo
set_option maxRecDepth 20000 in
theorem ggX9_leftAround_X10_isCell : GoodIn wsX9_leftAround wsX10_isCell := goodIn_r _ [8, 9] (by decide +kernel) (by decide +kernel)
set_option maxRecDepth 20000 in
theorem gX9_leftAround_X10_isCell_n31 : GoodIn wsX9_leftAround (wsX10_isCell) := ggX9_leftAround_X10_isCell
set_option maxRecDepth 20000 in
theorem ggX9_worstOf_X7_has : GoodIn wsX9_worstOf wsX7_has := goodIn_r _ [9, 10, 11, 8, 12] (by decide +kernel) (by decide +kernel)
set_option maxRecDepth 20000 in
theorem gX9_worstOf_X7_has : GoodIn wsX9_worstOf (va_wsS RX9 74 yX7_has wsX7_has) := goodIn_app (goodIn_of _ (by decide +kernel)) ggX9_worstOf_X7_has
set_option maxRecDepth 20000 in
theorem ggX9_worstOf_J13_bitCount_95d88 : GoodIn wsX9_worstOf wsJ13_bitCount_95d88 := goodIn_r _ [16, 17, 18, 19] (by decide +kernel) (by decide +kernel)
set_option maxRecDepth 20000 in
theorem gX9_worstOf_J13_bitCount_95d88 : GoodIn wsX9_worstOf (va_wsS RX9 85 yJ13_bitCount_95d88 wsJ13_bitCount_95d88) := goodIn_app (goodIn_of _ (by decide +kernel)) ggX9_worstOf_J13_bitCount_95d88
set_option maxRecDepth 20000 in
theorem ggX10_init_X3_init : GoodIn wsX10_init wsX3_init := goodIn_r _ [28, 29, 2, 3, 30, 31, 32, 33, 34, 35, 36, 37, 38, 39, 40, 73, 74, 75, 76, 77, 78, 79, 80, 81, 82] (by decide +kernel) (by decide +kernel)
set_option maxRecDepth 20000 in
theorem gX10_init_X3_init_n11 : GoodIn wsX10_init (wsX3_init) := ggX10_init_X3_init
set_option maxRecDepth 20000 in
theorem ggX10_init_X0_init : GoodIn wsX10_init wsX0_init := goodIn_r _ [42, 43, 2, 3, 30, 44, 45, 46, 47, 48, 49, 50, 51, 52, 53, 92, 93, 94, 95, 96, 97, 98, 99, 100] (by decide +kernel) (by decide +kernel)
set_option maxRecDepth 20000 in
theorem gX10_init_X0_init_n24 : GoodIn wsX10_init (wsX0_init) := ggX10_init_X0_init
set_option maxRecDepth 20000 in
theorem ggX10_init_X9_init : GoodIn wsX10_init wsX9_init := goodIn_r _ [55, 56, 2, 3, 46, 57, 58, 59, 101, 102, 103] (by decide +kernel) (by decide +kernel)
set_option maxRecDepth 20000 in
theorem gX10_init_X9_init_n31 : GoodIn wsX10_init (wsX9_init) := ggX10_init_X9_init
set_option maxRecDepth 20000 in
theorem ggX10_init_X4_init : GoodIn wsX10_init wsX4_init := goodIn_r _ [61, 62, 2, 3, 30, 63, 104] (by decide +kernel) (by decide +kernel)
set_option maxRecDepth 20000 in
theorem gX10_init_X4_init_n38 : GoodIn wsX10_init (wsX4_init) := ggX10_init_X4_init
set_option maxRecDepth 20000 in
theorem ggX10_init_X5_init : GoodIn wsX10_init wsX5_init := goodIn_r _ [65, 66, 2, 3, 67, 68, 69, 70, 71, 46, 72, 105, 106, 107, 108, 109, 110] (by decide +kernel) (by decide +kernel)
set_option maxRecDepth 20000 in
theorem gX10_init_X5_init_n45 : GoodIn wsX10_init (wsX5_init) := ggX10_init_X5_init
set_option maxRecDepth 20000 in
theorem ggX10_land_X10_refusalOfRow : GoodIn wsX10_land wsX10_refusalOfRow := goodIn_r _ [8, 9, 10, 11, 7, 12, 13, 14, 15, 16, 17, 18, 19, 20, 21, 22, 148, 149, 150, 151, 152, 153, 154, 155, 156, 157, 158, 159, 160, 161, 162] (by decide +kernel) (by decide +kernel)
set_option maxRecDepth 20000 in
theorem gX10_land_X10_refusalOfRow : GoodIn wsX10_land (wsV RX10 54 RX10 yX10_refusalOfRow wsX10_refusalOfRow) := goodIn_app (goodIn_of _ (by decide +kernel)) ggX10_land_X10_refusalOfRow
set_option maxRecDepth 20000 in
theorem ggX10_land_X10_shelfAt : GoodIn wsX10_land wsX10_shelfAt := goodIn_r _ [20, 21, 22, 154, 155, 156, 157, 158, 159, 160, 161, 162] (by decide +kernel) (by decide +kernel)
set_option maxRecDepth 20000 in
theorem gX10_land_X10_shelfAt : GoodIn wsX10_land (wsV RX10 58 RX10 yX10_shelfAt wsX10_shelfAt) := goodIn_app (goodIn_of _ (by decide +kernel)) ggX10_land_X10_shelfAt
set_option maxRecDepth 20000 in
theorem ggX10_land_X8_firstWrongByte : GoodIn wsX10_land wsX8_firstWrongByte := goodIn_r _ [26, 27, 28, 29, 30, 31, 32, 33, 34, 35, 36, 37, 38, 39, 25, 40, 148, 149, 150, 151, 152, 153] (by decide +kernel) (by decide +kernel)
set_option maxRecDepth 20000 in
theorem gX10_land_X8_firstWrongByte : GoodIn wsX10_land (va_wsS RX10 66 yX8_firstWrongByte wsX8_firstWrongByte) := goodIn_app (goodIn_of _ (by decide +kernel)) ggX10_land_X8_firstWrongByte
set_option maxRecDepth 20000 in
theorem ggX10_land_X3_becomes : GoodIn wsX10_land wsX3_becomes := goodIn_r _ [45, 46, 47, 48, 49, 50, 51, 52, 53, 54, 55, 163, 164, 165, 166, 167, 168, 169, 170, 171, 172] (by decide +kernel) (by decide +kernel)
set_option maxRecDepth 20000 in
theorem gX10_land_X3_becomes : GoodIn wsX10_land (wsV RX10 72 RX3 yX3_becomes wsX3_becomes) := goodIn_app (goodIn_of _ (by decide +kernel)) ggX10_land_X3_becomes
set_option maxRecDepth 20000 in
theorem ggX10_land_X8_firstNotDone : GoodIn wsX10_land wsX8_firstNotDone := goodIn_r _ [58, 27, 28, 31, 32, 33, 34, 35, 36, 37, 59, 60, 25, 61, 62, 63, 64, 65, 66, 67, 68, 69, 70, 71, 72, 73, 74, 75, 7, 76, 77, 78, 79, 80, 44, 81, 46, 47, 82, 83, 84, 85, 86, 87, 88, 48, 89, 90, 91, 92, 93, 94, 95, 51, 52, 96, 97, 98, 99, 100, 101, 102, 103, 104, 105, 106, 107, 108, 109, 110, 111, 112, 53, 113, 114, 115, 116, 117, 118, 119, 120, 121, 122, 123, 124, 125, 49, 54, 50, 55, 126, 127, 128, 129, 130, 131, 132, 133, 134, 135, 136, 137, 138, 139, 140, 141, 142, 143, 144, 148, 149, 150, 151, 152, 153, 163, 164, 165, 166, 167, 168, 169, 170, 171, 172] (by decide +kernel) (by decide +kernel)
set_option maxRecDepth 20000 in
theorem gX10_land_X8_firstNotDone : GoodIn wsX10_land (va_wsS RX10 76 yX8_firstNotDone wsX8_firstNotDone) := goodIn_app (goodIn_of _ (by decide +kernel)) ggX10_land_X8_firstNotDone
set_option maxRecDepth 20000 in
theorem ggX10_land_X8_statementsOf : GoodIn wsX10_land wsX8_statementsOf := goodIn_r _ [147, 27, 28, 31, 32, 33, 34, 35, 36, 37, 148, 149, 150, 151, 152, 153] (by decide +kernel) (by decide +kernel)
set_option maxRecDepth 20000 in
theorem gX10_land_X8_statementsOf : GoodIn wsX10_land (va_wsS RX10 80 yX8_statementsOf wsX8_statementsOf) := goodIn_app (goodIn_of _ (by decide +kernel)) ggX10_land_X8_statementsOf
set_option maxRecDepth 20000 in
theorem ggX10_ground_X10_isCell : GoodIn wsX10_ground wsX10_isCell := goodIn_r _ [5, 6] (by decide +kernel) (by decide +kernel)
set_option maxRecDepth 20000 in
theorem gX10_ground_X10_isCell : GoodIn wsX10_ground (va_wsS RX10 83 yX10_isCell wsX10_isCell) := goodIn_app (goodIn_of _ (by decide +kernel)) ggX10_ground_X10_isCell
set_option maxRecDepth 20000 in
theorem ggX10_ground_X3_kindAt : GoodIn wsX10_ground wsX3_kindAt := goodIn_r _ [11, 12, 3, 4, 5, 6, 50, 51, 52, 53, 54, 55, 56, 57, 58, 59] (by decide +kernel) (by decide +kernel)
set_option maxRecDepth 20000 in
theorem gX10_ground_X3_kindAt : GoodIn wsX10_ground (wsV RX10 87 RX3 yX3_kindAt wsX3_kindAt) := goodIn_app (goodIn_of _ (by decide +kernel)) ggX10_ground_X3_kindAt
set_option maxRecDepth 20000 in
theorem ggX10_ground_X3_figureAt : GoodIn wsX10_ground wsX3_figureAt := goodIn_r _ [16, 17, 3, 4, 5, 6, 50, 51, 52, 53, 54, 55, 56, 57, 58, 59] (by decide +kernel) (by decide +kernel)
set_option maxRecDepth 20000 in
theorem gX10_ground_X3_figureAt : GoodIn wsX10_ground (wsV RX10 90 RX3 yX3_figureAt wsX3_figureAt) := goodIn_app (goodIn_of _ (by decide +kernel)) ggX10_ground_X3_figureAt
set_option maxRecDepth 20000 in
theorem ggX10_ground_X3_heightAt : GoodIn wsX10_ground wsX3_heightAt := goodIn_r _ [21, 12, 17, 3, 4, 5, 6, 22, 23, 24, 25, 50, 51, 52, 53, 54, 55, 56, 57, 58, 59] (by decide +kernel) (by decide +kernel)
set_option maxRecDepth 20000 in
theorem gX10_ground_X3_heightAt : GoodIn wsX10_ground (wsV RX10 93 RX3 yX3_heightAt wsX3_heightAt) := goodIn_app (goodIn_of _ (by decide +kernel)) ggX10_ground_X3_heightAt
set_option maxRecDepth 20000 in
theorem ggX10_ground_X3_isOpen : GoodIn wsX10_ground wsX3_isOpen := goodIn_r _ [29, 12, 17, 30, 3, 4, 5, 6, 31, 32, 24, 33, 50, 51, 52, 53, 54, 55, 56, 57, 58, 59] (by decide +kernel) (by decide +kernel)
set_option maxRecDepth 20000 in
theorem gX10_ground_X3_isOpen : GoodIn wsX10_ground (wsV RX10 96 RX3 yX3_isOpen wsX3_isOpen) := goodIn_app (goodIn_of _ (by decide +kernel)) ggX10_ground_X3_isOpen
set_option maxRecDepth 20000 in
theorem ggX10_ground_X3_chanceAt : GoodIn wsX10_ground wsX3_chanceAt := goodIn_r _ [37, 12, 17, 3, 4, 5, 6, 38, 39, 24, 40, 50, 51, 52, 53, 54, 55, 56, 57, 58, 59] (by decide +kernel) (by decide +kernel)
set_option maxRecDepth 20000 in
theorem gX10_ground_X3_chanceAt : GoodIn wsX10_ground (wsV RX10 100 RX3 yX3_chanceAt wsX3_chanceAt) := goodIn_app (goodIn_of _ (by decide +kernel)) ggX10_ground_X3_chanceAt
set_option maxRecDepth 20000 in
theorem ggX10_lays_X10_isCell : GoodIn wsX10_lays wsX10_isCell := goodIn_r _ [7, 8] (by decide +kernel) (by decide +kernel)
set_option maxRecDepth 20000 in
theorem gX10_lays_X10_isCell : GoodIn wsX10_lays (va_wsS RX10 83 yX10_isCell wsX10_isCell) := goodIn_app (goodIn_of _ (by decide +kernel)) ggX10_lays_X10_isCell
set_option maxRecDepth 20000 in
theorem ggX10_lays_X10_refusalOfGround : GoodIn wsX10_lays wsX10_refusalOfGround := goodIn_r _ [12, 13, 14, 15, 6, 16, 17, 18, 19, 20, 21, 22, 23, 24, 25, 26, 47, 48, 49, 50, 51, 52, 38, 39, 40, 41, 42, 43, 44, 45, 46] (by decide +kernel) (by decide +kernel)
set_option maxRecDepth 20000 in
theorem gX10_lays_X10_refusalOfGround : GoodIn wsX10_lays (wsV RX10 103 RX10 yX10_refusalOfGround wsX10_refusalOfGround) := goodIn_app (goodIn_of _ (by decide +kernel)) ggX10_lays_X10_refusalOfGround
set_option maxRecDepth 20000 in
theorem ggX10_lays_X3_kindAt : GoodIn wsX10_lays wsX3_kindAt := goodIn_r _ [31, 32, 5, 6, 7, 8, 53, 54, 55, 56, 57, 58, 59, 60, 61, 62] (by decide +kernel) (by decide +kernel)
set_option maxRecDepth 20000 in
theorem gX10_lays_X3_kindAt : GoodIn wsX10_lays (wsV RX10 87 RX3 yX3_kindAt wsX3_kindAt) := goodIn_app (goodIn_of _ (by decide +kernel)) ggX10_lays_X3_kindAt
set_option maxRecDepth 20000 in
theorem ggX10_lays_X10_shelfAt : GoodIn wsX10_lays wsX10_shelfAt := goodIn_r _ [24, 25, 26, 38, 39, 40, 41, 42, 43, 44, 45, 46] (by decide +kernel) (by decide +kernel)
set_option maxRecDepth 20000 in
theorem gX10_lays_X10_shelfAt : GoodIn wsX10_lays (wsV RX10 58 RX10 yX10_shelfAt wsX10_shelfAt) := goodIn_app (goodIn_of _ (by decide +kernel)) ggX10_lays_X10_shelfAt
set_option maxRecDepth 20000 in
theorem ggX10_lays_X3_layAt : GoodIn wsX10_lays wsX3_layAt := goodIn_r _ [36, 32, 37, 5, 6, 7, 8, 53, 54, 55, 56, 57, 58, 59, 60, 61, 62] (by decide +kernel) (by decide +kernel)
set_option maxRecDepth 20000 in
theorem gX10_lays_X3_layAt : GoodIn wsX10_lays (wsV RX10 112 RX3 yX3_layAt wsX3_layAt) := goodIn_app (goodIn_of _ (by decide +kernel)) ggX10_lays_X3_layAt
set_option maxRecDepth 20000 in
theorem ggX10_stands_X10_isEither : GoodIn wsX10_stands wsX10_isEither := goodIn_r _ [7] (by decide +kernel) (by decide +kernel)
set_option maxRecDepth 20000 in
theorem gX10_stands_X10_isEither : GoodIn wsX10_stands (va_wsS RX10 116 yX10_isEither wsX10_isEither) := goodIn_app (goodIn_of _ (by decide +kernel)) ggX10_stands_X10_isEither
set_option maxRecDepth 20000 in
theorem ggX10_stands_X10_isCell : GoodIn wsX10_stands wsX10_isCell := goodIn_r _ [10, 11] (by decide +kernel) (by decide +kernel)
set_option maxRecDepth 20000 in
theorem gX10_stands_X10_isCell : GoodIn wsX10_stands (va_wsS RX10 83 yX10_isCell wsX10_isCell) := goodIn_app (goodIn_of _ (by decide +kernel)) ggX10_stands_X10_isCell
set_option maxRecDepth 20000 in
theorem ggX10_stands_X3_isOpen : GoodIn wsX10_stands wsX3_isOpen := goodIn_r _ [16, 17, 18, 19, 9, 6, 10, 11, 20, 21, 22, 23, 39, 40, 41, 42, 43, 44, 45, 46, 47, 48] (by decide +kernel) (by decide +kernel)
set_option maxRecDepth 20000 in
theorem gX10_stands_X3_isOpen : GoodIn wsX10_stands (wsV RX10 96 RX3 yX3_isOpen wsX3_isOpen) := goodIn_app (goodIn_of _ (by decide +kernel)) ggX10_stands_X3_isOpen
set_option maxRecDepth 20000 in
theorem ggX10_stands_X3_place : GoodIn wsX10_stands wsX3_place := goodIn_r _ [27, 28, 29, 39, 40, 41, 42, 43, 44, 45, 46, 47, 48] (by decide +kernel) (by decide +kernel)
set_option maxRecDepth 20000 in
theorem gX10_stands_X3_place : GoodIn wsX10_stands (wsV RX10 125 RX3 yX3_place wsX3_place) := goodIn_app (goodIn_of _ (by decide +kernel)) ggX10_stands_X3_place
set_option maxRecDepth 20000 in
theorem ggX10_set_X10_isDistance : GoodIn wsX10_set wsX10_isDistance := goodIn_r _ [8] (by decide +kernel) (by decide +kernel)
set_option maxRecDepth 20000 in
theorem gX10_set_X10_isDistance : GoodIn wsX10_set (va_wsS RX10 129 yX10_isDistance wsX10_isDistance) := goodIn_app (goodIn_of _ (by decide +kernel)) ggX10_set_X10_isDistance
set_option maxRecDepth 20000 in
theorem ggX10_set_X10_isEither : GoodIn wsX10_set wsX10_isEither := goodIn_r _ [11] (by decide +kernel) (by decide +kernel)
set_option maxRecDepth 20000 in
theorem gX10_set_X10_isEither : GoodIn wsX10_set (va_wsS RX10 116 yX10_isEither wsX10_isEither) := goodIn_app (goodIn_of _ (by decide +kernel)) ggX10_set_X10_isEither
set_option maxRecDepth 20000 in
theorem ggX10_go_X10_isWay : GoodIn wsX10_go wsX10_isWay := goodIn_r _ [7] (by decide +kernel) (by decide +kernel)
set_option maxRecDepth 20000 in
theorem gX10_go_X10_isWay : GoodIn wsX10_go (va_wsS RX10 141 yX10_isWay wsX10_isWay) := goodIn_app (goodIn_of _ (by decide +kernel)) ggX10_go_X10_isWay
set_option maxRecDepth 20000 in
theorem ggX10_go_X3_goDay : GoodIn wsX10_go wsX3_goDay := goodIn_r _ [12, 13, 14, 15, 16, 17, 18, 11, 19, 20, 21, 22, 23, 24, 6, 25, 26, 27, 28, 29, 30, 31, 32, 33, 34, 35, 36, 37, 38, 39, 40, 41, 42, 43, 44, 45, 46, 47, 48, 49, 50, 51, 52, 53, 54, 55, 56, 57, 58, 59, 60, 61, 62, 63, 64, 75, 76, 77, 78, 79, 80, 81, 82, 83, 84] (by decide +kernel) (by decide +kernel)
set_option maxRecDepth 20000 in
theorem gX10_go_X3_goDay : GoodIn wsX10_go (wsV RX10 144 RX3 yX3_goDay wsX3_goDay) := goodIn_app (goodIn_of _ (by decide +kernel)) ggX10_go_X3_goDay
set_option maxRecDepth 20000 in
theorem ggX10_go_X3_farBetween : GoodIn wsX10_go wsX3_farBetween := goodIn_r _ [49, 50, 51, 52, 53, 54, 55, 22, 56, 57, 58, 59, 60, 11, 61, 31, 32, 24, 6, 25, 26, 62, 63, 36, 64, 75, 76, 77, 78, 79, 80, 81, 82, 83, 84] (by decide +kernel) (by decide +kernel)
set_option maxRecDepth 20000 in
theorem gX10_go_X3_farBetween : GoodIn wsX10_go (wsV RX10 148 RX3 yX3_farBetween wsX3_farBetween) := goodIn_app (goodIn_of _ (by decide +kernel)) ggX10_go_X3_farBetween
set_option maxRecDepth 20000 in
theorem ggX10_far_X10_isCell : GoodIn wsX10_far wsX10_isCell := goodIn_r _ [5, 6] (by decide +kernel) (by decide +kernel)
set_option maxRecDepth 20000 in
theorem gX10_far_X10_isCell : GoodIn wsX10_far (va_wsS RX10 83 yX10_isCell wsX10_isCell) := goodIn_app (goodIn_of _ (by decide +kernel)) ggX10_far_X10_isCell
set_option maxRecDepth 20000 in
theorem ggX10_far_X3_farBetween : GoodIn wsX10_far wsX3_farBetween := goodIn_r _ [11, 12, 13, 14, 15, 16, 17, 18, 19, 20, 21, 22, 23, 10, 24, 25, 26, 3, 4, 5, 6, 27, 28, 29, 30, 40, 41, 42, 43, 44, 45, 46, 47, 48, 49] (by decide +kernel) (by decide +kernel)
set_option maxRecDepth 20000 in
theorem gX10_far_X3_farBetween : GoodIn wsX10_far (wsV RX10 148 RX3 yX3_farBetween wsX3_farBetween) := goodIn_app (goodIn_of _ (by decide +kernel)) ggX10_far_X3_farBetween
set_option maxRecDepth 20000 in
theorem ggX10_steps_X10_isCell : GoodIn wsX10_steps wsX10_isCell := goodIn_r _ [5, 6] (by decide +kernel) (by decide +kernel)
set_option maxRecDepth 20000 in
theorem gX10_steps_X10_isCell : GoodIn wsX10_steps (va_wsS RX10 83 yX10_isCell wsX10_isCell) := goodIn_app (goodIn_of _ (by decide +kernel)) ggX10_steps_X10_isCell
set_option maxRecDepth 20000 in
theorem ggX10_steps_X3_openCells : GoodIn wsX10_steps wsX3_openCells := goodIn_r _ [11, 12, 13, 14, 10, 15, 16, 17, 18, 3, 4, 5, 6, 19, 20, 21, 22, 23, 24, 25, 26, 49, 50, 51, 52, 53, 54, 55, 56, 57, 58] (by decide +kernel) (by decide +kernel)
set_option maxRecDepth 20000 in
theorem gX10_steps_X3_openCells : GoodIn wsX10_steps (wsV RX10 152 RX3 yX3_openCells wsX3_openCells) := goodIn_app (goodIn_of _ (by decide +kernel)) ggX10_steps_X3_openCells
set_option maxRecDepth 20000 in
theorem ggX10_steps_X7_stepsBetween : GoodIn wsX10_steps wsX7_stepsBetween := goodIn_r _ [29, 30, 24, 25, 26, 31, 32, 33, 34, 35, 36, 37, 38, 39] (by decide +kernel) (by decide +kernel)
set_option maxRecDepth 20000 in
theorem gX10_steps_X7_stepsBetween : GoodIn wsX10_steps (va_wsS RX10 156 yX7_stepsBetween wsX7_stepsBetween) := goodIn_app (goodIn_of _ (by decide +kernel)) ggX10_steps_X7_stepsBetween
set_option maxRecDepth 20000 in
theorem ggX10_pairs_X0_lay : GoodIn wsX10_pairs wsX0_lay := goodIn_r _ [7, 8, 9, 10, 11, 12, 13, 14, 15, 16, 17, 18, 19, 20, 21, 22, 23, 24, 25, 26, 27, 28, 29, 30, 31, 32, 33, 34, 35, 36, 37, 38, 6, 39, 40, 41, 42, 43, 44, 45, 46, 47, 48, 49, 50, 51, 52, 53, 54, 55, 56, 57, 58, 59, 60, 61, 62, 63, 64, 92, 93, 94, 95, 96, 97, 98, 99, 100, 101, 102, 103, 104, 105, 106, 107, 108, 109, 110] (by decide +kernel) (by decide +kernel)
set_option maxRecDepth 20000 in
theorem gX10_pairs_X0_lay : GoodIn wsX10_pairs (wsV RX10 162 RX0 yX0_lay wsX0_lay) := goodIn_app (goodIn_of _ (by decide +kernel)) ggX10_pairs_X0_lay
set_option maxRecDepth 20000 in
theorem ggX10_pairs_X0_pairsInAll : GoodIn wsX10_pairs wsX0_pairsInAll := goodIn_r _ [68, 60, 69, 70, 6, 71, 72, 73, 74, 75, 76, 77, 78, 92, 93, 94, 95, 96, 97, 98, 99, 100] (by decide +kernel) (by decide +kernel)
set_option maxRecDepth 20000 in
theorem gX10_pairs_X0_pairsInAll : GoodIn wsX10_pairs (wsV RX10 165 RX0 yX0_pairsInAll wsX0_pairsInAll) := goodIn_app (goodIn_of _ (by decide +kernel)) ggX10_pairs_X0_pairsInAll
set_option maxRecDepth 20000 in
theorem ggX10_pairs_X0_pairAt : GoodIn wsX10_pairs wsX0_pairAt := goodIn_r _ [82, 60, 61, 62, 33, 63, 64, 54, 55, 92, 93, 94, 95, 96, 97, 98, 99, 100] (by decide +kernel) (by decide +kernel)
set_option maxRecDepth 20000 in
theorem gX10_pairs_X0_pairAt : GoodIn wsX10_pairs (wsV RX10 169 RX0 yX0_pairAt wsX0_pairAt) := goodIn_app (goodIn_of _ (by decide +kernel)) ggX10_pairs_X0_pairAt
set_option maxRecDepth 20000 in
theorem ggX10_islands_X3_openCells : GoodIn wsX10_islands wsX3_openCells := goodIn_r _ [6, 7, 8, 9, 5, 10, 11, 12, 13, 14, 15, 16, 17, 18, 19, 20, 21, 22, 23, 24, 25, 55, 56, 57, 58, 59, 60, 61, 62, 63, 64] (by decide +kernel) (by decide +kernel)
set_option maxRecDepth 20000 in
theorem gX10_islands_X3_openCells : GoodIn wsX10_islands (wsV RX10 152 RX3 yX3_openCells wsX3_openCells) := goodIn_app (goodIn_of _ (by decide +kernel)) ggX10_islands_X3_openCells
set_option maxRecDepth 20000 in
theorem ggX10_islands_X7_islandsOf : GoodIn wsX10_islands wsX7_islandsOf := goodIn_r _ [28, 29, 30, 31, 24, 32, 33, 23, 25, 34, 35, 36, 37, 38, 39, 40, 41, 42, 43, 44, 45] (by decide +kernel) (by decide +kernel)
set_option maxRecDepth 20000 in
theorem gX10_islands_X7_islandsOf : GoodIn wsX10_islands (va_wsS RX10 172 yX7_islandsOf wsX7_islandsOf) := goodIn_app (goodIn_of _ (by decide +kernel)) ggX10_islands_X7_islandsOf
set_option maxRecDepth 20000 in
theorem ggX10_island_X10_isCell : GoodIn wsX10_island wsX10_isCell := goodIn_r _ [5, 6] (by decide +kernel) (by decide +kernel)
set_option maxRecDepth 20000 in
theorem gX10_island_X10_isCell : GoodIn wsX10_island (va_wsS RX10 83 yX10_isCell wsX10_isCell) := goodIn_app (goodIn_of _ (by decide +kernel)) ggX10_island_X10_isCell
set_option maxRecDepth 20000 in
theorem ggX10_island_X3_openCells : GoodIn wsX10_island wsX3_openCells := goodIn_r _ [11, 12, 13, 14, 10, 15, 16, 17, 18, 3, 4, 5, 6, 19, 20, 21, 22, 23, 24, 25, 26, 59, 60, 61, 62, 63, 64, 65, 66, 67, 68] (by decide +kernel) (by decide +kernel)
set_option maxRecDepth 20000 in
theorem gX10_island_X3_openCells : GoodIn wsX10_island (wsV RX10 152 RX3 yX3_openCells wsX3_openCells) := goodIn_app (goodIn_of _ (by decide +kernel)) ggX10_island_X3_openCells
set_option maxRecDepth 20000 in
theorem ggX10_island_X7_has : GoodIn wsX10_island wsX7_has := goodIn_r _ [29, 30, 24, 25, 26] (by decide +kernel) (by decide +kernel)
set_option maxRecDepth 20000 in
theorem gX10_island_X7_has : GoodIn wsX10_island (va_wsS RX10 176 yX7_has wsX7_has) := goodIn_app (goodIn_of _ (by decide +kernel)) ggX10_island_X7_has
set_option maxRecDepth 20000 in
theorem ggX10_island_X7_islandOf : GoodIn wsX10_island wsX7_islandOf := goodIn_r _ [33, 34, 35, 25, 36, 30, 24, 26, 37, 38, 39, 40, 41, 42] (by decide +kernel) (by decide +kernel)
set_option maxRecDepth 20000 in
theorem gX10_island_X7_islandOf : GoodIn wsX10_island (va_wsS RX10 180 yX7_islandOf wsX7_islandOf) := goodIn_app (goodIn_of _ (by decide +kernel)) ggX10_island_X7_islandOf
set_option maxRecDepth 20000 in
theorem ggX10_island_J13_bitCount_95d88 : GoodIn wsX10_island wsJ13_bitCount_95d88 := goodIn_r _ [46, 47, 48, 49] (by decide +kernel) (by decide +kernel)
set_option maxRecDepth 20000 in
theorem gX10_island_J13_bitCount_95d88 : GoodIn wsX10_island (va_wsS RX10 184 yJ13_bitCount_95d88 wsJ13_bitCount_95d88) := goodIn_app (goodIn_of _ (by decide +kernel)) ggX10_island_J13_bitCount_95d88
set_option maxRecDepth 20000 in
theorem ggX10_middle_X10_isEither : GoodIn wsX10_middle wsX10_isEither := goodIn_r _ [5] (by decide +kernel) (by decide +kernel)
set_option maxRecDepth 20000 in
theorem gX10_middle_X10_isEither : GoodIn wsX10_middle (va_wsS RX10 116 yX10_isEither wsX10_isEither) := goodIn_app (goodIn_of _ (by decide +kernel)) ggX10_middle_X10_isEither
set_option maxRecDepth 20000 in
theorem ggX10_middle_X3_openCells : GoodIn wsX10_middle wsX3_openCells := goodIn_r _ [10, 11, 12, 13, 9, 14, 15, 16, 17, 18, 4, 19, 20, 21, 22, 23, 24, 25, 26, 27, 28, 72, 73, 74, 75, 76, 77, 78, 79, 80, 81] (by decide +kernel) (by decide +kernel)
set_option maxRecDepth 20000 in
theorem gX10_middle_X3_openCells : GoodIn wsX10_middle (wsV RX10 152 RX3 yX3_openCells wsX3_openCells) := goodIn_app (goodIn_of _ (by decide +kernel)) ggX10_middle_X3_openCells
set_option maxRecDepth 20000 in
theorem ggX10_middle_X7_middleOf : GoodIn wsX10_middle wsX7_middleOf := goodIn_r _ [31, 32, 33, 27, 34, 35, 36, 37, 38, 39, 26, 28, 40, 41, 42, 43, 44, 45, 46, 47, 48, 49, 50, 51, 52, 53, 54, 55, 56, 57, 58, 59, 60, 61] (by decide +kernel) (by decide +kernel)
set_option maxRecDepth 20000 in
theorem gX10_middle_X7_middleOf : GoodIn wsX10_middle (va_wsS RX10 189 yX7_middleOf wsX7_middleOf) := goodIn_app (goodIn_of _ (by decide +kernel)) ggX10_middle_X7_middleOf
set_option maxRecDepth 20000 in
theorem ggX10_middle_X7_greatestSteps : GoodIn wsX10_middle wsX7_greatestSteps := goodIn_r _ [61, 39, 26, 27, 28, 46, 47, 48, 49, 50, 51] (by decide +kernel) (by decide +kernel)
set_option maxRecDepth 20000 in
theorem gX10_middle_X7_greatestSteps : GoodIn wsX10_middle (va_wsS RX10 192 yX7_greatestSteps wsX7_greatestSteps) := goodIn_app (goodIn_of _ (by decide +kernel)) ggX10_middle_X7_greatestSteps
set_option maxRecDepth 20000 in
theorem ggX10_see_X10_refusalToSee : GoodIn wsX10_see wsX10_refusalToSee := goodIn_r _ [9, 2, 10, 11, 8, 12, 13, 14, 15, 16, 17, 18, 19, 20, 123, 124, 125, 126, 127, 128, 129, 130, 131, 132, 133, 134, 135, 136, 137, 138, 139, 140, 141] (by decide +kernel) (by decide +kernel)
set_option maxRecDepth 20000 in
theorem gX10_see_X10_refusalToSee : GoodIn wsX10_see (wsV RX10 196 RX10 yX10_refusalToSee wsX10_refusalToSee) := goodIn_app (goodIn_of _ (by decide +kernel)) ggX10_see_X10_refusalToSee
set_option maxRecDepth 20000 in
theorem ggX10_see_X0_lay : GoodIn wsX10_see wsX0_lay := goodIn_r _ [25, 26, 27, 28, 29, 30, 31, 32, 33, 34, 35, 36, 17, 37, 38, 39, 11, 8, 12, 13, 40, 41, 42, 43, 44, 45, 46, 47, 48, 49, 50, 51, 24, 52, 53, 54, 55, 56, 57, 58, 59, 60, 61, 62, 63, 64, 65, 66, 67, 68, 69, 70, 71, 72, 73, 74, 75, 76, 77, 142, 143, 144, 145, 146, 147, 148, 149, 150, 132, 133, 134, 135, 136, 137, 138, 139, 140, 141] (by decide +kernel) (by decide +kernel)
set_option maxRecDepth 20000 in
theorem gX10_see_X0_lay : GoodIn wsX10_see (wsV RX10 162 RX0 yX0_lay wsX0_lay) := goodIn_app (goodIn_of _ (by decide +kernel)) ggX10_see_X0_lay
set_option maxRecDepth 20000 in
theorem ggX10_see_X0_daysBetween : GoodIn wsX10_see wsX0_daysBetween := goodIn_r _ [81, 82, 83, 84, 85, 24, 86, 73, 11, 8, 12, 13, 74, 75, 46, 76, 77, 67, 68, 87, 88, 89, 90, 91, 92, 93, 94, 95, 96, 97, 98, 99, 100, 101, 102, 103, 104, 105, 106, 107, 108, 109, 110, 111, 112, 113, 114, 115, 116, 117, 118, 119, 120, 121, 122, 142, 143, 144, 145, 146, 147, 148, 149, 150] (by decide +kernel) (by decide +kernel)
set_option maxRecDepth 20000 in
theorem gX10_see_X0_daysBetween : GoodIn wsX10_see (wsV RX10 199 RX0 yX0_daysBetween wsX0_daysBetween) := goodIn_app (goodIn_of _ (by decide +kernel)) ggX10_see_X0_daysBetween
set_option maxRecDepth 20000 in
theorem ggX10_way_X10_refusalToSee : GoodIn wsX10_way wsX10_refusalToSee := goodIn_r _ [9, 2, 10, 11, 8, 12, 13, 14, 15, 16, 17, 18, 19, 20, 135, 136, 137, 138, 139, 140, 141, 142, 143, 144, 145, 146, 147, 148, 149, 150, 151, 152, 153] (by decide +kernel) (by decide +kernel)
set_option maxRecDepth 20000 in
theorem gX10_way_X10_refusalToSee : GoodIn wsX10_way (wsV RX10 196 RX10 yX10_refusalToSee wsX10_refusalToSee) := goodIn_app (goodIn_of _ (by decide +kernel)) ggX10_way_X10_refusalToSee
set_option maxRecDepth 20000 in
theorem ggX10_way_X0_lay : GoodIn wsX10_way wsX0_lay := goodIn_r _ [25, 26, 27, 28, 29, 30, 31, 32, 33, 34, 35, 36, 17, 37, 38, 39, 11, 8, 12, 13, 40, 41, 42, 43, 44, 45, 46, 47, 48, 49, 50, 51, 24, 52, 53, 54, 55, 56, 57, 58, 59, 60, 61, 62, 63, 64, 65, 66, 67, 68, 69, 70, 71, 72, 73, 74, 75, 76, 77, 154, 155, 156, 157, 158, 159, 160, 161, 162, 144, 145, 146, 147, 148, 149, 150, 151, 152, 153] (by decide +kernel) (by decide +kernel)
set_option maxRecDepth 20000 in
theorem gX10_way_X0_lay : GoodIn wsX10_way (wsV RX10 162 RX0 yX0_lay wsX0_lay) := goodIn_app (goodIn_of _ (by decide +kernel)) ggX10_way_X0_lay
set_option maxRecDepth 20000 in
theorem ggX10_way_X0_daysBetween : GoodIn wsX10_way wsX0_daysBetween := goodIn_r _ [81, 82, 83, 84, 85, 24, 86, 73, 11, 8, 12, 13, 74, 75, 46, 76, 77, 67, 68, 87, 88, 89, 90, 91, 92, 93, 94, 95, 96, 97, 98, 99, 100, 101, 102, 103, 104, 105, 106, 107, 108, 109, 110, 111, 112, 113, 114, 115, 116, 117, 118, 119, 120, 121, 122, 154, 155, 156, 157, 158, 159, 160, 161, 162] (by decide +kernel) (by decide +kernel)
set_option maxRecDepth 20000 in
theorem gX10_way_X0_daysBetween : GoodIn wsX10_way (wsV RX10 199 RX0 yX0_daysBetween wsX0_daysBetween) := goodIn_app (goodIn_of _ (by decide +kernel)) ggX10_way_X0_daysBetween
set_option maxRecDepth 20000 in
theorem ggX10_way_X0_pairOnWay : GoodIn wsX10_way wsX0_pairOnWay := goodIn_r _ [126, 127, 128, 129, 24, 130, 131, 132, 133, 134, 91, 11, 8, 12, 13, 110, 111, 46, 112, 154, 155, 156, 157, 158, 159, 160, 161, 162] (by decide +kernel) (by decide +kernel)
set_option maxRecDepth 20000 in
theorem gX10_way_X0_pairOnWay : GoodIn wsX10_way (wsV RX10 203 RX0 yX0_pairOnWay wsX0_pairOnWay) := goodIn_app (goodIn_of _ (by decide +kernel)) ggX10_way_X0_pairOnWay
set_option maxRecDepth 20000 in
theorem ggX10_hinders_X10_refusalToSee : GoodIn wsX10_hinders wsX10_refusalToSee := goodIn_r _ [9, 2, 10, 11, 8, 12, 13, 14, 15, 16, 17, 18, 19, 20, 127, 128, 129, 130, 131, 132, 133, 134, 135, 136, 137, 138, 139, 140, 141, 142, 143, 144, 145] (by decide +kernel) (by decide +kernel)
set_option maxRecDepth 20000 in
theorem gX10_hinders_X10_refusalToSee : GoodIn wsX10_hinders (wsV RX10 196 RX10 yX10_refusalToSee wsX10_refusalToSee) := goodIn_app (goodIn_of _ (by decide +kernel)) ggX10_hinders_X10_refusalToSee
set_option maxRecDepth 20000 in
theorem ggX10_hinders_X0_lay : GoodIn wsX10_hinders wsX0_lay := goodIn_r _ [25, 26, 27, 28, 29, 30, 31, 32, 33, 34, 35, 36, 17, 37, 38, 39, 11, 8, 12, 13, 40, 41, 42, 43, 44, 45, 46, 47, 48, 49, 50, 51, 24, 52, 53, 54, 55, 56, 57, 58, 59, 60, 61, 62, 63, 64, 65, 66, 67, 68, 69, 70, 71, 72, 73, 74, 75, 76, 77, 146, 147, 148, 149, 150, 151, 152, 153, 154, 136, 137, 138, 139, 140, 141, 142, 143, 144, 145] (by decide +kernel) (by decide +kernel)
set_option maxRecDepth 20000 in
theorem gX10_hinders_X0_lay : GoodIn wsX10_hinders (wsV RX10 162 RX0 yX0_lay wsX0_lay) := goodIn_app (goodIn_of _ (by decide +kernel)) ggX10_hinders_X0_lay
set_option maxRecDepth 20000 in
theorem ggX10_hinders_X0_daysBetween : GoodIn wsX10_hinders wsX0_daysBetween := goodIn_r _ [81, 82, 83, 84, 85, 24, 86, 73, 11, 8, 12, 13, 74, 75, 46, 76, 77, 67, 68, 87, 88, 89, 90, 91, 92, 93, 94, 95, 96, 97, 98, 99, 100, 101, 102, 103, 104, 105, 106, 107, 108, 109, 110, 111, 112, 113, 114, 115, 116, 117, 118, 119, 120, 121, 122, 146, 147, 148, 149, 150, 151, 152, 153, 154] (by decide +kernel) (by decide +kernel)
set_option maxRecDepth 20000 in
theorem gX10_hinders_X0_daysBetween : GoodIn wsX10_hinders (wsV RX10 199 RX0 yX0_daysBetween wsX0_daysBetween) := goodIn_app (goodIn_of _ (by decide +kernel)) ggX10_hinders_X0_daysBetween
set_option maxRecDepth 20000 in
theorem ggX10_hinders_X3_openCells : GoodIn wsX10_hinders wsX3_openCells := goodIn_r _ [57, 58, 59, 60, 17, 61, 38, 39, 62, 11, 8, 12, 13, 63, 64, 42, 65, 66, 67, 46, 68, 136, 137, 138, 139, 140, 141, 142, 143, 144, 145] (by decide +kernel) (by decide +kernel)
set_option maxRecDepth 20000 in
theorem gX10_hinders_X3_openCells : GoodIn wsX10_hinders (wsV RX10 152 RX3 yX3_openCells wsX3_openCells) := goodIn_app (goodIn_of _ (by decide +kernel)) ggX10_hinders_X3_openCells
set_option maxRecDepth 20000 in
theorem ggX10_hinders_X7_has : GoodIn wsX10_hinders wsX7_has := goodIn_r _ [76, 77, 67, 46, 68] (by decide +kernel) (by decide +kernel)
set_option maxRecDepth 20000 in
theorem gX10_hinders_X7_has : GoodIn wsX10_hinders (va_wsS RX10 176 yX7_has wsX7_has) := goodIn_app (goodIn_of _ (by decide +kernel)) ggX10_hinders_X7_has
set_option maxRecDepth 20000 in
theorem ggX10_hinders_X7_bit : GoodIn wsX10_hinders wsX7_bit := goodIn_r _ [68] (by decide +kernel) (by decide +kernel)
set_option maxRecDepth 20000 in
theorem gX10_hinders_X7_bit : GoodIn wsX10_hinders (va_wsS RX10 207 yX7_bit wsX7_bit) := goodIn_app (goodIn_of _ (by decide +kernel)) ggX10_hinders_X7_bit
set_option maxRecDepth 20000 in
theorem ggX10_hinders_X0_admit : GoodIn wsX10_hinders wsX0_admit := goodIn_r _ [72, 73, 53, 74, 75, 46, 76, 77, 67, 68, 146, 147, 148, 149, 150, 151, 152, 153, 154] (by decide +kernel) (by decide +kernel)
set_option maxRecDepth 20000 in
theorem gX10_hinders_X0_admit : GoodIn wsX10_hinders (wsV RX10 211 RX0 yX0_admit wsX0_admit) := goodIn_app (goodIn_of _ (by decide +kernel)) ggX10_hinders_X0_admit
set_option maxRecDepth 20000 in
theorem ggX10_needs_X10_refusalToSee : GoodIn wsX10_needs wsX10_refusalToSee := goodIn_r _ [10, 2, 11, 12, 9, 13, 14, 15, 16, 17, 18, 19, 20, 21, 127, 128, 129, 130, 131, 132, 133, 134, 135, 136, 137, 138, 139, 140, 141, 142, 143, 144, 145] (by decide +kernel) (by decide +kernel)
set_option maxRecDepth 20000 in
theorem gX10_needs_X10_refusalToSee : GoodIn wsX10_needs (wsV RX10 196 RX10 yX10_refusalToSee wsX10_refusalToSee) := goodIn_app (goodIn_of _ (by decide +kernel)) ggX10_needs_X10_refusalToSee
set_option maxRecDepth 20000 in
theorem ggX10_needs_X0_lay : GoodIn wsX10_needs wsX0_lay := goodIn_r _ [26, 27, 28, 29, 30, 31, 32, 33, 34, 35, 36, 37, 18, 38, 39, 40, 12, 9, 13, 14, 41, 42, 43, 44, 45, 46, 47, 48, 49, 50, 51, 52, 25, 53, 54, 55, 56, 57, 58, 59, 60, 61, 62, 63, 64, 65, 66, 67, 68, 69, 70, 71, 72, 73, 74, 75, 76, 77, 78, 146, 147, 148, 149, 150, 151, 152, 153, 154, 136, 137, 138, 139, 140, 141, 142, 143, 144, 145] (by decide +kernel) (by decide +kernel)
set_option maxRecDepth 20000 in
theorem gX10_needs_X0_lay : GoodIn wsX10_needs (wsV RX10 162 RX0 yX0_lay wsX0_lay) := goodIn_app (goodIn_of _ (by decide +kernel)) ggX10_needs_X0_lay
set_option maxRecDepth 20000 in
theorem ggX10_needs_X3_openCells : GoodIn wsX10_needs wsX3_openCells := goodIn_r _ [58, 59, 60, 61, 18, 62, 39, 40, 63, 12, 9, 13, 14, 64, 65, 43, 66, 67, 68, 47, 69, 136, 137, 138, 139, 140, 141, 142, 143, 144, 145] (by decide +kernel) (by decide +kernel)
set_option maxRecDepth 20000 in
theorem gX10_needs_X3_openCells : GoodIn wsX10_needs (wsV RX10 152 RX3 yX3_openCells wsX3_openCells) := goodIn_app (goodIn_of _ (by decide +kernel)) ggX10_needs_X3_openCells
set_option maxRecDepth 20000 in
theorem ggX10_needs_X0_bound : GoodIn wsX10_needs wsX0_bound := goodIn_r _ [53, 32, 54, 146, 147, 148, 149, 150, 151, 152, 153, 154] (by decide +kernel) (by decide +kernel)
set_option maxRecDepth 20000 in
theorem gX10_needs_X0_bound : GoodIn wsX10_needs (wsV RX10 215 RX0 yX0_bound wsX0_bound) := goodIn_app (goodIn_of _ (by decide +kernel)) ggX10_needs_X0_bound
set_option maxRecDepth 20000 in
theorem ggX10_needs_X0_admit : GoodIn wsX10_needs wsX0_admit := goodIn_r _ [73, 74, 54, 75, 76, 47, 77, 78, 68, 69, 146, 147, 148, 149, 150, 151, 152, 153, 154] (by decide +kernel) (by decide +kernel)
set_option maxRecDepth 20000 in
theorem gX10_needs_X0_admit : GoodIn wsX10_needs (wsV RX10 211 RX0 yX0_admit wsX0_admit) := goodIn_app (goodIn_of _ (by decide +kernel)) ggX10_needs_X0_admit
set_option maxRecDepth 20000 in
theorem ggX10_needs_X0_daysBetween : GoodIn wsX10_needs wsX0_daysBetween := goodIn_r _ [85, 86, 87, 88, 89, 25, 90, 74, 12, 9, 13, 14, 75, 76, 47, 77, 78, 68, 69, 91, 92, 93, 94, 95, 96, 97, 98, 99, 100, 101, 102, 103, 104, 105, 106, 107, 108, 109, 110, 111, 112, 113, 114, 115, 116, 117, 118, 119, 120, 121, 122, 123, 124, 125, 126, 146, 147, 148, 149, 150, 151, 152, 153, 154] (by decide +kernel) (by decide +kernel)
set_option maxRecDepth 20000 in
theorem gX10_needs_X0_daysBetween : GoodIn wsX10_needs (wsV RX10 199 RX0 yX0_daysBetween wsX0_daysBetween) := goodIn_app (goodIn_of _ (by decide +kernel)) ggX10_needs_X0_daysBetween
set_option maxRecDepth 20000 in
theorem ggX10_within_X3_bothStand : GoodIn wsX10_within wsX3_bothStand := goodIn_r _ [9, 10, 11, 137, 138, 139, 140, 141, 142, 143, 144, 145, 146] (by decide +kernel) (by decide +kernel)
set_option maxRecDepth 20000 in
theorem gX10_within_X3_bothStand : GoodIn wsX10_within (wsV RX10 218 RX3 yX3_bothStand wsX3_bothStand) := goodIn_app (goodIn_of _ (by decide +kernel)) ggX10_within_X3_bothStand
set_option maxRecDepth 20000 in
theorem ggX10_within_X0_lay : GoodIn wsX10_within wsX0_lay := goodIn_r _ [16, 17, 18, 19, 20, 21, 22, 23, 24, 25, 26, 27, 8, 28, 29, 30, 31, 32, 33, 34, 35, 36, 37, 38, 39, 40, 41, 42, 43, 44, 45, 46, 15, 47, 48, 49, 50, 51, 52, 53, 54, 55, 56, 57, 58, 59, 60, 61, 62, 63, 64, 65, 66, 67, 68, 69, 70, 71, 72, 147, 148, 149, 150, 151, 152, 153, 154, 155, 137, 138, 139, 140, 141, 142, 143, 144, 145, 146] (by decide +kernel) (by decide +kernel)
set_option maxRecDepth 20000 in
theorem gX10_within_X0_lay : GoodIn wsX10_within (wsV RX10 162 RX0 yX0_lay wsX0_lay) := goodIn_app (goodIn_of _ (by decide +kernel)) ggX10_within_X0_lay
set_option maxRecDepth 20000 in
theorem ggX10_within_X0_pairsWithin : GoodIn wsX10_within wsX0_pairsWithin := goodIn_r _ [76, 77, 78, 79, 80, 15, 81, 82, 83, 84, 85, 86, 87, 88, 89, 90, 91, 92, 93, 68, 31, 32, 33, 34, 69, 70, 41, 71, 72, 62, 63, 94, 95, 96, 97, 98, 99, 100, 101, 102, 103, 104, 105, 106, 107, 108, 109, 110, 111, 112, 113, 114, 115, 116, 117, 118, 119, 120, 121, 122, 123, 124, 125, 126, 127, 147, 148, 149, 150, 151, 152, 153, 154, 155] (by decide +kernel) (by decide +kernel)
set_option maxRecDepth 20000 in
theorem gX10_within_X0_pairsWithin : GoodIn wsX10_within (wsV RX10 222 RX0 yX0_pairsWithin wsX0_pairsWithin) := goodIn_app (goodIn_of _ (by decide +kernel)) ggX10_within_X0_pairsWithin
set_option maxRecDepth 20000 in
theorem ggX10_ways_X10_refusalToCount : GoodIn wsX10_ways wsX10_refusalToCount := goodIn_r _ [9, 2, 10, 11, 12, 13, 14, 15, 16, 110, 111, 112, 113, 114, 115, 116, 117, 118, 119, 120, 121, 122, 123, 124, 125, 126, 127, 128] (by decide +kernel) (by decide +kernel)
set_option maxRecDepth 20000 in
theorem gX10_ways_X10_refusalToCount : GoodIn wsX10_ways (wsV RX10 225 RX10 yX10_refusalToCount wsX10_refusalToCount) := goodIn_app (goodIn_of _ (by decide +kernel)) ggX10_ways_X10_refusalToCount
set_option maxRecDepth 20000 in
theorem ggX10_ways_X10_ofLongs : GoodIn wsX10_ways wsX10_ofLongs := goodIn_r _ [19, 20] (by decide +kernel) (by decide +kernel)
set_option maxRecDepth 20000 in
theorem gX10_ways_X10_ofLongs : GoodIn wsX10_ways (va_wsS RX10 228 yX10_ofLongs wsX10_ofLongs) := goodIn_app (goodIn_of _ (by decide +kernel)) ggX10_ways_X10_ofLongs
set_option maxRecDepth 20000 in
theorem ggX10_ways_X0_lay : GoodIn wsX10_ways wsX0_lay := goodIn_r _ [25, 26, 27, 28, 29, 30, 31, 32, 33, 34, 35, 36, 13, 37, 38, 39, 40, 8, 41, 42, 43, 44, 45, 46, 47, 48, 49, 50, 51, 52, 53, 54, 24, 55, 56, 57, 58, 59, 60, 61, 62, 63, 64, 65, 66, 67, 68, 69, 70, 71, 72, 73, 74, 75, 76, 77, 78, 79, 80, 129, 130, 131, 132, 133, 134, 135, 136, 137, 119, 120, 121, 122, 123, 124, 125, 126, 127, 128] (by decide +kernel) (by decide +kernel)
set_option maxRecDepth 20000 in
theorem gX10_ways_X0_lay : GoodIn wsX10_ways (wsV RX10 162 RX0 yX0_lay wsX0_lay) := goodIn_app (goodIn_of _ (by decide +kernel)) ggX10_ways_X0_lay
set_option maxRecDepth 20000 in
theorem ggX10_ways_X0_walk : GoodIn wsX10_ways wsX0_walk := goodIn_r _ [84, 85, 86, 87, 88, 89, 90, 91, 92, 24, 93, 76, 40, 8, 41, 42, 77, 78, 49, 79, 80, 70, 71, 94, 95, 96, 97, 98, 99, 100, 101, 102, 103, 104, 105, 129, 130, 131, 132, 133, 134, 135, 136, 137] (by decide +kernel) (by decide +kernel)
set_option maxRecDepth 20000 in
theorem gX10_ways_X0_walk : GoodIn wsX10_ways (wsV RX10 231 RX0 yX0_walk wsX0_walk) := goodIn_app (goodIn_of _ (by decide +kernel)) ggX10_ways_X0_walk
set_option maxRecDepth 20000 in
theorem ggX10_ways_X0_walksInAll : GoodIn wsX10_ways wsX0_walksInAll := goodIn_r _ [109, 85, 129, 130, 131, 132, 133, 134, 135, 136, 137] (by decide +kernel) (by decide +kernel)
set_option maxRecDepth 20000 in
theorem gX10_ways_X0_walksInAll : GoodIn wsX10_ways (wsV RX10 234 RX0 yX0_walksInAll wsX0_walksInAll) := goodIn_app (goodIn_of _ (by decide +kernel)) ggX10_ways_X0_walksInAll
set_option maxRecDepth 20000 in
theorem ggX10_rounds_X10_refusalToCount : GoodIn wsX10_rounds wsX10_refusalToCount := goodIn_r _ [9, 2, 10, 11, 12, 13, 14, 15, 16, 110, 111, 112, 113, 114, 115, 116, 117, 118, 119, 120, 121, 122, 123, 124, 125, 126, 127, 128] (by decide +kernel) (by decide +kernel)
set_option maxRecDepth 20000 in
theorem gX10_rounds_X10_refusalToCount : GoodIn wsX10_rounds (wsV RX10 225 RX10 yX10_refusalToCount wsX10_refusalToCount) := goodIn_app (goodIn_of _ (by decide +kernel)) ggX10_rounds_X10_refusalToCount
set_option maxRecDepth 20000 in
theorem ggX10_rounds_X10_ofLongs : GoodIn wsX10_rounds wsX10_ofLongs := goodIn_r _ [19, 20] (by decide +kernel) (by decide +kernel)
set_option maxRecDepth 20000 in
theorem gX10_rounds_X10_ofLongs : GoodIn wsX10_rounds (va_wsS RX10 228 yX10_ofLongs wsX10_ofLongs) := goodIn_app (goodIn_of _ (by decide +kernel)) ggX10_rounds_X10_ofLongs
set_option maxRecDepth 20000 in
theorem ggX10_rounds_X0_lay : GoodIn wsX10_rounds wsX0_lay := goodIn_r _ [25, 26, 27, 28, 29, 30, 31, 32, 33, 34, 35, 36, 13, 37, 38, 39, 40, 8, 41, 42, 43, 44, 45, 46, 47, 48, 49, 50, 51, 52, 53, 54, 24, 55, 56, 57, 58, 59, 60, 61, 62, 63, 64, 65, 66, 67, 68, 69, 70, 71, 72, 73, 74, 75, 76, 77, 78, 79, 80, 129, 130, 131, 132, 133, 134, 135, 136, 137, 119, 120, 121, 122, 123, 124, 125, 126, 127, 128] (by decide +kernel) (by decide +kernel)
set_option maxRecDepth 20000 in
theorem gX10_rounds_X0_lay : GoodIn wsX10_rounds (wsV RX10 162 RX0 yX0_lay wsX0_lay) := goodIn_app (goodIn_of _ (by decide +kernel)) ggX10_rounds_X0_lay
set_option maxRecDepth 20000 in
theorem ggX10_rounds_X0_walk : GoodIn wsX10_rounds wsX0_walk := goodIn_r _ [84, 85, 86, 87, 88, 89, 90, 91, 92, 24, 93, 76, 40, 8, 41, 42, 77, 78, 49, 79, 80, 70, 71, 94, 95, 96, 97, 98, 99, 100, 101, 102, 103, 104, 105, 129, 130, 131, 132, 133, 134, 135, 136, 137] (by decide +kernel) (by decide +kernel)
set_option maxRecDepth 20000 in
theorem gX10_rounds_X0_walk : GoodIn wsX10_rounds (wsV RX10 231 RX0 yX0_walk wsX0_walk) := goodIn_app (goodIn_of _ (by decide +kernel)) ggX10_rounds_X0_walk
set_option maxRecDepth 20000 in
theorem ggX10_rounds_X0_walksTo : GoodIn wsX10_rounds wsX0_walksTo := goodIn_r _ [109, 85, 40, 8, 41, 42, 129, 130, 131, 132, 133, 134, 135, 136, 137] (by decide +kernel) (by decide +kernel)
set_option maxRecDepth 20000 in
theorem gX10_rounds_X0_walksTo : GoodIn wsX10_rounds (wsV RX10 237 RX0 yX0_walksTo wsX0_walksTo) := goodIn_app (goodIn_of _ (by decide +kernel)) ggX10_rounds_X0_walksTo
set_option maxRecDepth 20000 in
theorem ggX10_late_X10_isCell : GoodIn wsX10_late wsX10_isCell := goodIn_r _ [8, 9] (by decide +kernel) (by decide +kernel)
set_option maxRecDepth 20000 in
theorem gX10_late_X10_isCell : GoodIn wsX10_late (va_wsS RX10 83 yX10_isCell wsX10_isCell) := goodIn_app (goodIn_of _ (by decide +kernel)) ggX10_late_X10_isCell
set_option maxRecDepth 20000 in
theorem ggX10_late_X3_isOpen : GoodIn wsX10_late wsX3_isOpen := goodIn_r _ [14, 15, 16, 17, 6, 7, 8, 9, 18, 19, 20, 21, 99, 100, 101, 102, 103, 104, 105, 106, 107, 108] (by decide +kernel) (by decide +kernel)
set_option maxRecDepth 20000 in
theorem gX10_late_X3_isOpen : GoodIn wsX10_late (wsV RX10 96 RX3 yX3_isOpen wsX3_isOpen) := goodIn_app (goodIn_of _ (by decide +kernel)) ggX10_late_X3_isOpen
set_option maxRecDepth 20000 in
theorem ggX10_late_X0_lay : GoodIn wsX10_late wsX0_lay := goodIn_r _ [26, 27, 28, 29, 30, 31, 32, 33, 34, 35, 36, 37, 13, 38, 15, 16, 6, 7, 8, 9, 39, 40, 20, 41, 42, 43, 44, 45, 46, 47, 48, 49, 25, 50, 51, 52, 53, 54, 55, 56, 11, 12, 14, 17, 18, 19, 21, 57, 58, 59, 60, 61, 62, 63, 64, 65, 66, 67, 68, 109, 110, 111, 112, 113, 114, 115, 116, 117, 99, 100, 101, 102, 103, 104, 105, 106, 107, 108] (by decide +kernel) (by decide +kernel)
set_option maxRecDepth 20000 in
theorem gX10_late_X0_lay : GoodIn wsX10_late (wsV RX10 162 RX0 yX0_lay wsX0_lay) := goodIn_app (goodIn_of _ (by decide +kernel)) ggX10_late_X0_lay
set_option maxRecDepth 20000 in
theorem ggX10_late_X3_openCells : GoodIn wsX10_late wsX3_openCells := goodIn_r _ [55, 56, 11, 12, 13, 14, 15, 16, 17, 6, 7, 8, 9, 18, 19, 20, 21, 57, 58, 44, 59, 99, 100, 101, 102, 103, 104, 105, 106, 107, 108] (by decide +kernel) (by decide +kernel)
set_option maxRecDepth 20000 in
theorem gX10_late_X3_openCells : GoodIn wsX10_late (wsV RX10 152 RX3 yX3_openCells wsX3_openCells) := goodIn_app (goodIn_of _ (by decide +kernel)) ggX10_late_X3_openCells
set_option maxRecDepth 20000 in
theorem ggX10_late_X7_cellsWithin : GoodIn wsX10_late wsX7_cellsWithin := goodIn_r _ [72, 68, 58, 44, 59, 73, 74, 75, 76, 77, 78] (by decide +kernel) (by decide +kernel)
set_option maxRecDepth 20000 in
theorem gX10_late_X7_cellsWithin : GoodIn wsX10_late (va_wsS RX10 241 yX7_cellsWithin wsX7_cellsWithin) := goodIn_app (goodIn_of _ (by decide +kernel)) ggX10_late_X7_cellsWithin
set_option maxRecDepth 20000 in
theorem ggX10_late_X3_cellBy : GoodIn wsX10_late wsX3_cellBy := goodIn_r _ [82, 83, 84, 44, 85, 6, 7, 8, 9, 56, 11, 12, 13, 14, 15, 16, 17, 18, 19, 20, 21, 99, 100, 101, 102, 103, 104, 105, 106, 107, 108] (by decide +kernel) (by decide +kernel)
set_option maxRecDepth 20000 in
theorem gX10_late_X3_cellBy : GoodIn wsX10_late (wsV RX10 245 RX3 yX3_cellBy wsX3_cellBy) := goodIn_app (goodIn_of _ (by decide +kernel)) ggX10_late_X3_cellBy
set_option maxRecDepth 20000 in
theorem ggX10_late_X0_nearOf : GoodIn wsX10_late wsX0_nearOf := goodIn_r _ [89, 51, 6, 7, 8, 9, 109, 110, 111, 112, 113, 114, 115, 116, 117] (by decide +kernel) (by decide +kernel)
set_option maxRecDepth 20000 in
theorem gX10_late_X0_nearOf : GoodIn wsX10_late (wsV RX10 248 RX0 yX0_nearOf wsX0_nearOf) := goodIn_app (goodIn_of _ (by decide +kernel)) ggX10_late_X0_nearOf
set_option maxRecDepth 20000 in
theorem ggX10_hisWay_X10_isEither : GoodIn wsX10_hisWay wsX10_isEither := goodIn_r _ [7] (by decide +kernel) (by decide +kernel)
set_option maxRecDepth 20000 in
theorem gX10_hisWay_X10_isEither : GoodIn wsX10_hisWay (va_wsS RX10 116 yX10_isEither wsX10_isEither) := goodIn_app (goodIn_of _ (by decide +kernel)) ggX10_hisWay_X10_isEither
set_option maxRecDepth 20000 in
theorem ggX10_hisWay_X10_refusalOfTrack : GoodIn wsX10_hisWay wsX10_refusalOfTrack := goodIn_r _ [11, 12, 13, 14, 6, 15, 16, 17, 18, 19, 20, 21, 22, 23, 24, 25, 26, 27, 28, 29, 30, 31, 32, 33, 34, 35, 36, 37, 38, 39, 40, 41, 42, 43, 44, 142, 143, 144, 145, 146, 147, 133, 134, 135, 136, 137, 138, 139, 140, 141] (by decide +kernel) (by decide +kernel)
set_option maxRecDepth 20000 in
theorem gX10_hisWay_X10_refusalOfTrack : GoodIn wsX10_hisWay (wsV RX10 253 RX10 yX10_refusalOfTrack wsX10_refusalOfTrack) := goodIn_app (goodIn_of _ (by decide +kernel)) ggX10_hisWay_X10_refusalOfTrack
set_option maxRecDepth 20000 in
theorem ggX10_hisWay_X10_ofLongs : GoodIn wsX10_hisWay wsX10_ofLongs := goodIn_r _ [47, 48] (by decide +kernel) (by decide +kernel)
set_option maxRecDepth 20000 in
theorem gX10_hisWay_X10_ofLongs : GoodIn wsX10_hisWay (va_wsS RX10 228 yX10_ofLongs wsX10_ofLongs) := goodIn_app (goodIn_of _ (by decide +kernel)) ggX10_hisWay_X10_ofLongs
set_option maxRecDepth 20000 in
theorem ggX10_hisWay_X0_lay : GoodIn wsX10_hisWay wsX0_lay := goodIn_r _ [53, 54, 55, 56, 57, 58, 59, 60, 61, 62, 63, 64, 65, 66, 67, 68, 42, 6, 43, 44, 69, 70, 71, 72, 73, 74, 75, 76, 77, 78, 79, 80, 52, 81, 82, 83, 84, 85, 86, 87, 88, 89, 90, 91, 92, 93, 94, 95, 96, 97, 98, 99, 100, 101, 102, 103, 104, 105, 106, 148, 149, 150, 151, 152, 153, 154, 155, 156, 157, 158, 159, 160, 161, 162, 163, 164, 165, 166] (by decide +kernel) (by decide +kernel)
set_option maxRecDepth 20000 in
theorem gX10_hisWay_X0_lay : GoodIn wsX10_hisWay (wsV RX10 162 RX0 yX0_lay wsX0_lay) := goodIn_app (goodIn_of _ (by decide +kernel)) ggX10_hisWay_X0_lay
set_option maxRecDepth 20000 in
theorem ggX10_hisWay_X10_shelfAt : GoodIn wsX10_hisWay wsX10_shelfAt := goodIn_r _ [27, 28, 29, 133, 134, 135, 136, 137, 138, 139, 140, 141] (by decide +kernel) (by decide +kernel)
set_option maxRecDepth 20000 in
theorem gX10_hisWay_X10_shelfAt : GoodIn wsX10_hisWay (wsV RX10 58 RX10 yX10_shelfAt wsX10_shelfAt) := goodIn_app (goodIn_of _ (by decide +kernel)) ggX10_hisWay_X10_shelfAt
set_option maxRecDepth 20000 in
theorem ggX10_hisWay_X3_openCells : GoodIn wsX10_hisWay wsX3_openCells := goodIn_r _ [86, 87, 88, 89, 65, 90, 67, 68, 91, 42, 6, 43, 44, 92, 93, 71, 94, 95, 96, 75, 97, 157, 158, 159, 160, 161, 162, 163, 164, 165, 166] (by decide +kernel) (by decide +kernel)
set_option maxRecDepth 20000 in
theorem gX10_hisWay_X3_openCells : GoodIn wsX10_hisWay (wsV RX10 152 RX3 yX3_openCells wsX3_openCells) := goodIn_app (goodIn_of _ (by decide +kernel)) ggX10_hisWay_X3_openCells
set_option maxRecDepth 20000 in
theorem ggX10_hisWay_X9_follow : GoodIn wsX10_hisWay wsX9_follow := goodIn_r _ [111, 34, 112, 113, 114, 75, 115, 116, 117, 118, 119, 120, 32, 121, 35, 36, 37, 38, 39, 40, 41, 122, 123, 124, 52, 125, 82, 42, 6, 43, 44, 142, 143, 144, 145, 146, 147, 167, 168, 169, 148, 149, 150, 151, 152, 153, 154, 155, 156] (by decide +kernel) (by decide +kernel)
set_option maxRecDepth 20000 in
theorem gX10_hisWay_X9_follow : GoodIn wsX10_hisWay (wsV RX10 256 RX9 yX9_follow wsX9_follow) := goodIn_app (goodIn_of _ (by decide +kernel)) ggX10_hisWay_X9_follow
set_option maxRecDepth 20000 in
theorem ggX10_hisWay_J13_bitCount_95d88 : GoodIn wsX10_hisWay wsJ13_bitCount_95d88 := goodIn_r _ [129, 130, 131, 132] (by decide +kernel) (by decide +kernel)
set_option maxRecDepth 20000 in
theorem gX10_hisWay_J13_bitCount_95d88 : GoodIn wsX10_hisWay (va_wsS RX10 184 yJ13_bitCount_95d88 wsJ13_bitCount_95d88) := goodIn_app (goodIn_of _ (by decide +kernel)) ggX10_hisWay_J13_bitCount_95d88
set_option maxRecDepth 20000 in
theorem ggX10_letter_X10_refusalOfTrack : GoodIn wsX10_letter wsX10_refusalOfTrack := goodIn_r _ [8, 9, 10, 11, 7, 12, 13, 14, 15, 16, 17, 18, 19, 20, 21, 22, 23, 24, 25, 26, 27, 28, 29, 30, 31, 32, 33, 34, 35, 36, 37, 38, 39, 40, 41, 160, 161, 162, 163, 164, 165, 151, 152, 153, 154, 155, 156, 157, 158, 159] (by decide +kernel) (by decide +kernel)
set_option maxRecDepth 20000 in
theorem gX10_letter_X10_refusalOfTrack : GoodIn wsX10_letter (wsV RX10 253 RX10 yX10_refusalOfTrack wsX10_refusalOfTrack) := goodIn_app (goodIn_of _ (by decide +kernel)) ggX10_letter_X10_refusalOfTrack
set_option maxRecDepth 20000 in
theorem ggX10_letter_X0_lay : GoodIn wsX10_letter wsX0_lay := goodIn_r _ [46, 47, 48, 49, 50, 51, 52, 53, 54, 55, 56, 57, 58, 59, 60, 61, 39, 7, 40, 41, 62, 63, 64, 65, 66, 67, 68, 69, 70, 71, 72, 73, 45, 74, 75, 76, 77, 78, 79, 80, 81, 82, 83, 84, 85, 86, 87, 88, 89, 90, 91, 92, 93, 94, 95, 96, 97, 98, 99, 166, 167, 168, 169, 170, 171, 172, 173, 174, 175, 176, 177, 178, 179, 180, 181, 182, 183, 184] (by decide +kernel) (by decide +kernel)
set_option maxRecDepth 20000 in
theorem gX10_letter_X0_lay : GoodIn wsX10_letter (wsV RX10 162 RX0 yX0_lay wsX0_lay) := goodIn_app (goodIn_of _ (by decide +kernel)) ggX10_letter_X0_lay
set_option maxRecDepth 20000 in
theorem ggX10_letter_X10_shelfAt : GoodIn wsX10_letter wsX10_shelfAt := goodIn_r _ [24, 25, 26, 151, 152, 153, 154, 155, 156, 157, 158, 159] (by decide +kernel) (by decide +kernel)
set_option maxRecDepth 20000 in
theorem gX10_letter_X10_shelfAt : GoodIn wsX10_letter (wsV RX10 58 RX10 yX10_shelfAt wsX10_shelfAt) := goodIn_app (goodIn_of _ (by decide +kernel)) ggX10_letter_X10_shelfAt
set_option maxRecDepth 20000 in
theorem ggX10_letter_X3_openCells : GoodIn wsX10_letter wsX3_openCells := goodIn_r _ [79, 80, 81, 82, 58, 83, 60, 61, 84, 39, 7, 40, 41, 85, 86, 64, 87, 88, 89, 68, 90, 175, 176, 177, 178, 179, 180, 181, 182, 183, 184] (by decide +kernel) (by decide +kernel)
set_option maxRecDepth 20000 in
theorem gX10_letter_X3_openCells : GoodIn wsX10_letter (wsV RX10 152 RX3 yX3_openCells wsX3_openCells) := goodIn_app (goodIn_of _ (by decide +kernel)) ggX10_letter_X3_openCells
set_option maxRecDepth 20000 in
theorem ggX10_letter_X9_follow : GoodIn wsX10_letter wsX9_follow := goodIn_r _ [104, 31, 105, 106, 107, 68, 108, 109, 110, 111, 112, 113, 29, 114, 32, 33, 34, 35, 36, 37, 38, 115, 116, 117, 45, 118, 75, 39, 7, 40, 41, 160, 161, 162, 163, 164, 165, 185, 186, 187, 166, 167, 168, 169, 170, 171, 172, 173, 174] (by decide +kernel) (by decide +kernel)
set_option maxRecDepth 20000 in
theorem gX10_letter_X9_follow : GoodIn wsX10_letter (wsV RX10 256 RX9 yX9_follow wsX9_follow) := goodIn_app (goodIn_of _ (by decide +kernel)) ggX10_letter_X9_follow
set_option maxRecDepth 20000 in
theorem ggX10_letter_X9_bestDay : GoodIn wsX10_letter wsX9_bestDay := goodIn_r _ [122, 31, 123, 124, 50, 125, 126, 127, 105, 112, 113, 29, 114, 32, 33, 34, 35, 36, 37, 38, 115, 116, 117, 45, 118, 75, 39, 7, 40, 41, 128, 89, 68, 90, 129, 130, 131, 132, 133, 134, 135, 136, 97, 98, 99, 137, 138, 139, 140, 141, 142, 143, 144, 145, 146, 147, 148, 149, 150, 160, 161, 162, 163, 164, 165, 185, 186, 187, 166, 167, 168, 169, 170, 171, 172, 173, 174] (by decide +kernel) (by decide +kernel)
set_option maxRecDepth 20000 in
theorem gX10_letter_X9_bestDay : GoodIn wsX10_letter (wsV RX10 260 RX9 yX9_bestDay wsX9_bestDay) := goodIn_app (goodIn_of _ (by decide +kernel)) ggX10_letter_X9_bestDay
set_option maxRecDepth 20000 in
theorem ggX10_third_X10_isEither : GoodIn wsX10_third wsX10_isEither := goodIn_r _ [8] (by decide +kernel) (by decide +kernel)
set_option maxRecDepth 20000 in
theorem gX10_third_X10_isEither : GoodIn wsX10_third (va_wsS RX10 116 yX10_isEither wsX10_isEither) := goodIn_app (goodIn_of _ (by decide +kernel)) ggX10_third_X10_isEither
set_option maxRecDepth 20000 in
theorem ggX10_third_X3_bothStand : GoodIn wsX10_third wsX3_bothStand := goodIn_r _ [13, 14, 15, 101, 102, 103, 104, 105, 106, 107, 108, 109, 110] (by decide +kernel) (by decide +kernel)
set_option maxRecDepth 20000 in
theorem gX10_third_X3_bothStand : GoodIn wsX10_third (wsV RX10 218 RX3 yX3_bothStand wsX3_bothStand) := goodIn_app (goodIn_of _ (by decide +kernel)) ggX10_third_X3_bothStand
set_option maxRecDepth 20000 in
theorem ggX10_third_X0_lay : GoodIn wsX10_third wsX0_lay := goodIn_r _ [20, 21, 22, 23, 24, 25, 26, 27, 28, 29, 30, 31, 12, 32, 33, 34, 35, 7, 36, 37, 38, 39, 40, 41, 42, 43, 44, 45, 46, 47, 48, 49, 19, 50, 51, 52, 53, 54, 55, 56, 57, 58, 59, 60, 61, 62, 63, 64, 65, 66, 67, 68, 69, 70, 71, 72, 73, 74, 75, 111, 112, 113, 114, 115, 116, 117, 118, 119, 101, 102, 103, 104, 105, 106, 107, 108, 109, 110] (by decide +kernel) (by decide +kernel)
set_option maxRecDepth 20000 in
theorem gX10_third_X0_lay : GoodIn wsX10_third (wsV RX10 162 RX0 yX0_lay wsX0_lay) := goodIn_app (goodIn_of _ (by decide +kernel)) ggX10_third_X0_lay
set_option maxRecDepth 20000 in
theorem ggX10_third_X0_nearOf : GoodIn wsX10_third wsX0_nearOf := goodIn_r _ [79, 51, 35, 7, 36, 37, 111, 112, 113, 114, 115, 116, 117, 118, 119] (by decide +kernel) (by decide +kernel)
set_option maxRecDepth 20000 in
theorem gX10_third_X0_nearOf : GoodIn wsX10_third (wsV RX10 248 RX0 yX0_nearOf wsX0_nearOf) := goodIn_app (goodIn_of _ (by decide +kernel)) ggX10_third_X0_nearOf
set_option maxRecDepth 20000 in
theorem ggX10_third_X3_openCells : GoodIn wsX10_third wsX3_openCells := goodIn_r _ [55, 56, 57, 58, 12, 59, 33, 34, 60, 35, 7, 36, 37, 61, 62, 40, 63, 64, 65, 44, 66, 101, 102, 103, 104, 105, 106, 107, 108, 109, 110] (by decide +kernel) (by decide +kernel)
set_option maxRecDepth 20000 in
theorem gX10_third_X3_openCells : GoodIn wsX10_third (wsV RX10 152 RX3 yX3_openCells wsX3_openCells) := goodIn_app (goodIn_of _ (by decide +kernel)) ggX10_third_X3_openCells
set_option maxRecDepth 20000 in
theorem ggX10_third_J13_bitCount_95d88 : GoodIn wsX10_third wsJ13_bitCount_95d88 := goodIn_r _ [84, 85, 86, 87] (by decide +kernel) (by decide +kernel)
set_option maxRecDepth 20000 in
theorem gX10_third_J13_bitCount_95d88 : GoodIn wsX10_third (va_wsS RX10 184 yJ13_bitCount_95d88 wsJ13_bitCount_95d88) := goodIn_app (goodIn_of _ (by decide +kernel)) ggX10_third_J13_bitCount_95d88
set_option maxRecDepth 20000 in
theorem ggX10_third_X7_leastOf : GoodIn wsX10_third wsX7_leastOf := goodIn_r _ [90, 91, 73, 44, 74, 75, 65, 66] (by decide +kernel) (by decide +kernel)
set_option maxRecDepth 20000 in
theorem gX10_third_X7_leastOf : GoodIn wsX10_third (va_wsS RX10 264 yX7_leastOf wsX7_leastOf) := goodIn_app (goodIn_of _ (by decide +kernel)) ggX10_third_X7_leastOf
set_option maxRecDepth 20000 in
theorem ggX10_game_X10_isEither : GoodIn wsX10_game wsX10_isEither := goodIn_r _ [6] (by decide +kernel) (by decide +kernel)
set_option maxRecDepth 20000 in
theorem gX10_game_X10_isEither : GoodIn wsX10_game (va_wsS RX10 116 yX10_isEither wsX10_isEither) := goodIn_app (goodIn_of _ (by decide +kernel)) ggX10_game_X10_isEither
set_option maxRecDepth 20000 in
theorem ggX10_game_X3_bothStand : GoodIn wsX10_game wsX3_bothStand := goodIn_r _ [11, 12, 13, 97, 98, 99, 100, 101, 102, 103, 104, 105, 106] (by decide +kernel) (by decide +kernel)
set_option maxRecDepth 20000 in
theorem gX10_game_X3_bothStand : GoodIn wsX10_game (wsV RX10 218 RX3 yX3_bothStand wsX3_bothStand) := goodIn_app (goodIn_of _ (by decide +kernel)) ggX10_game_X3_bothStand
set_option maxRecDepth 20000 in
theorem ggX10_game_X4_lay : GoodIn wsX10_game wsX4_lay := goodIn_r _ [18, 19, 20, 21, 22, 23, 24, 10, 25, 26, 27, 28, 29, 30, 5, 31, 32, 33, 34, 35, 36, 37, 38, 39, 40, 41, 42, 43, 44, 45, 46, 47, 48, 49, 50, 51, 52, 53, 54, 55, 56, 57, 58, 59, 60, 61, 62, 97, 98, 99, 100, 101, 102, 103, 104, 105, 106, 107] (by decide +kernel) (by decide +kernel)
set_option maxRecDepth 20000 in
theorem gX10_game_X4_lay : GoodIn wsX10_game (wsV RX10 267 RX4 yX4_lay wsX4_lay) := goodIn_app (goodIn_of _ (by decide +kernel)) ggX10_game_X4_lay
set_option maxRecDepth 20000 in
theorem ggX10_game_X4_firstHeld : GoodIn wsX10_game wsX4_firstHeld := goodIn_r _ [66, 67, 68, 69, 17, 70, 21, 71, 5, 72, 73, 74, 75, 76, 107] (by decide +kernel) (by decide +kernel)
set_option maxRecDepth 20000 in
theorem gX10_game_X4_firstHeld : GoodIn wsX10_game (wsV RX10 268 RX4 yX4_firstHeld wsX4_firstHeld) := goodIn_app (goodIn_of _ (by decide +kernel)) ggX10_game_X4_firstHeld
set_option maxRecDepth 20000 in
theorem ggX10_game_X4_leastSure : GoodIn wsX10_game wsX4_leastSure := goodIn_r _ [80, 81, 82, 83, 17, 84, 85, 86, 50, 87, 67, 68, 69, 70, 21, 71, 5, 72, 107] (by decide +kernel) (by decide +kernel)
set_option maxRecDepth 20000 in
theorem gX10_game_X4_leastSure : GoodIn wsX10_game (wsV RX10 271 RX4 yX4_leastSure wsX4_leastSure) := goodIn_app (goodIn_of _ (by decide +kernel)) ggX10_game_X4_leastSure
set_option maxRecDepth 20000 in
theorem ggX10_snow_X10_isCell : GoodIn wsX10_snow wsX10_isCell := goodIn_r _ [6, 7] (by decide +kernel) (by decide +kernel)
set_option maxRecDepth 20000 in
theorem gX10_snow_X10_isCell : GoodIn wsX10_snow (va_wsS RX10 83 yX10_isCell wsX10_isCell) := goodIn_app (goodIn_of _ (by decide +kernel)) ggX10_snow_X10_isCell
set_option maxRecDepth 20000 in
theorem ggX10_snow_X10_isEither : GoodIn wsX10_snow wsX10_isEither := goodIn_r _ [10] (by decide +kernel) (by decide +kernel)
set_option maxRecDepth 20000 in
theorem gX10_snow_X10_isEither : GoodIn wsX10_snow (va_wsS RX10 116 yX10_isEither wsX10_isEither) := goodIn_app (goodIn_of _ (by decide +kernel)) ggX10_snow_X10_isEither
set_option maxRecDepth 20000 in
theorem ggX10_snow_X10_ofLongs : GoodIn wsX10_snow wsX10_ofLongs := goodIn_r _ [13, 14] (by decide +kernel) (by decide +kernel)
set_option maxRecDepth 20000 in
theorem gX10_snow_X10_ofLongs : GoodIn wsX10_snow (va_wsS RX10 228 yX10_ofLongs wsX10_ofLongs) := goodIn_app (goodIn_of _ (by decide +kernel)) ggX10_snow_X10_ofLongs
set_option maxRecDepth 20000 in
theorem ggX10_snow_X3_unsureCells : GoodIn wsX10_snow wsX3_unsureCells := goodIn_r _ [19, 20, 21, 22, 18, 23, 24, 25, 4, 5, 6, 7, 26, 27, 28, 29, 30, 31, 32, 33, 93, 94, 95, 96, 97, 98, 99, 100, 101, 102] (by decide +kernel) (by decide +kernel)
set_option maxRecDepth 20000 in
theorem gX10_snow_X3_unsureCells : GoodIn wsX10_snow (wsV RX10 274 RX3 yX3_unsureCells wsX3_unsureCells) := goodIn_app (goodIn_of _ (by decide +kernel)) ggX10_snow_X3_unsureCells
set_option maxRecDepth 20000 in
theorem ggX10_snow_J13_bitCount_95d88 : GoodIn wsX10_snow wsJ13_bitCount_95d88 := goodIn_r _ [37, 38, 39, 40] (by decide +kernel) (by decide +kernel)
set_option maxRecDepth 20000 in
theorem gX10_snow_J13_bitCount_95d88 : GoodIn wsX10_snow (va_wsS RX10 184 yJ13_bitCount_95d88 wsJ13_bitCount_95d88) := goodIn_app (goodIn_of _ (by decide +kernel)) ggX10_snow_J13_bitCount_95d88
set_option maxRecDepth 20000 in
theorem ggX10_snow_X6_likely : GoodIn wsX10_snow wsX6_likely := goodIn_r _ [44, 45, 46, 47, 48, 49, 50, 51, 18, 52, 20, 21, 22, 23, 24, 25, 4, 5, 6, 7, 26, 27, 28, 29, 30, 31, 32, 33, 53, 16, 17, 19, 54, 35, 36, 37, 38, 39, 40, 55, 56, 43, 57, 58, 59, 60, 61, 62, 63, 64, 65, 66, 67, 68, 69, 70, 71, 72, 73, 74, 75, 76, 93, 94, 95, 96, 97, 98, 99, 100, 101, 102] (by decide +kernel) (by decide +kernel)
set_option maxRecDepth 20000 in
theorem gX10_snow_X6_likely : GoodIn wsX10_snow (va_wsS RX10 283 yX6_likely wsX6_likely) := goodIn_app (goodIn_of _ (by decide +kernel)) ggX10_snow_X6_likely
set_option maxRecDepth 20000 in
theorem ggX10_snow_X1_partOf : GoodIn wsX10_snow wsX1_partOf := goodIn_r _ [80, 81, 82, 79, 83] (by decide +kernel) (by decide +kernel)
set_option maxRecDepth 20000 in
theorem gX10_snow_X1_partOf : GoodIn wsX10_snow (va_wsS RX10 287 yX1_partOf wsX1_partOf) := goodIn_app (goodIn_of _ (by decide +kernel)) ggX10_snow_X1_partOf
set_option maxRecDepth 20000 in
theorem ggX10_mean_X10_isEither : GoodIn wsX10_mean wsX10_isEither := goodIn_r _ [6] (by decide +kernel) (by decide +kernel)
set_option maxRecDepth 20000 in
theorem gX10_mean_X10_isEither : GoodIn wsX10_mean (va_wsS RX10 116 yX10_isEither wsX10_isEither) := goodIn_app (goodIn_of _ (by decide +kernel)) ggX10_mean_X10_isEither
set_option maxRecDepth 20000 in
theorem ggX10_mean_X10_ofLongs : GoodIn wsX10_mean wsX10_ofLongs := goodIn_r _ [9, 10] (by decide +kernel) (by decide +kernel)
set_option maxRecDepth 20000 in
theorem gX10_mean_X10_ofLongs : GoodIn wsX10_mean (va_wsS RX10 228 yX10_ofLongs wsX10_ofLongs) := goodIn_app (goodIn_of _ (by decide +kernel)) ggX10_mean_X10_ofLongs
set_option maxRecDepth 20000 in
theorem ggX10_mean_X0_lay : GoodIn wsX10_mean wsX0_lay := goodIn_r _ [15, 16, 17, 18, 19, 20, 21, 22, 23, 24, 25, 26, 27, 28, 29, 30, 31, 5, 32, 33, 34, 35, 36, 37, 38, 39, 40, 41, 42, 43, 44, 45, 14, 46, 47, 48, 49, 50, 51, 52, 53, 54, 55, 56, 57, 58, 59, 60, 61, 62, 63, 64, 65, 66, 67, 68, 69, 70, 71, 106, 107, 108, 109, 110, 111, 112, 113, 114, 115, 116, 117, 118, 119, 120, 121, 122, 123, 124] (by decide +kernel) (by decide +kernel)
set_option maxRecDepth 20000 in
theorem gX10_mean_X0_lay : GoodIn wsX10_mean (wsV RX10 162 RX0 yX0_lay wsX0_lay) := goodIn_app (goodIn_of _ (by decide +kernel)) ggX10_mean_X0_lay
set_option maxRecDepth 20000 in
theorem ggX10_mean_X0_farsInAll : GoodIn wsX10_mean wsX0_farsInAll := goodIn_r _ [75, 67, 21, 68, 69, 40, 70, 71, 61, 62, 106, 107, 108, 109, 110, 111, 112, 113, 114] (by decide +kernel) (by decide +kernel)
set_option maxRecDepth 20000 in
theorem gX10_mean_X0_farsInAll : GoodIn wsX10_mean (wsV RX10 293 RX0 yX0_farsInAll wsX0_farsInAll) := goodIn_app (goodIn_of _ (by decide +kernel)) ggX10_mean_X0_farsInAll
set_option maxRecDepth 20000 in
theorem ggX10_mean_X0_pairsInAll : GoodIn wsX10_mean wsX0_pairsInAll := goodIn_r _ [79, 67, 80, 81, 14, 82, 83, 84, 85, 86, 87, 88, 89, 106, 107, 108, 109, 110, 111, 112, 113, 114] (by decide +kernel) (by decide +kernel)
set_option maxRecDepth 20000 in
theorem gX10_mean_X0_pairsInAll : GoodIn wsX10_mean (wsV RX10 165 RX0 yX0_pairsInAll wsX0_pairsInAll) := goodIn_app (goodIn_of _ (by decide +kernel)) ggX10_mean_X0_pairsInAll
set_option maxRecDepth 20000 in
theorem ggX10_mean_X1_partOf : GoodIn wsX10_mean wsX1_partOf := goodIn_r _ [93, 94, 95, 92, 96] (by decide +kernel) (by decide +kernel)
set_option maxRecDepth 20000 in
theorem gX10_mean_X1_partOf : GoodIn wsX10_mean (va_wsS RX10 287 yX1_partOf wsX1_partOf) := goodIn_app (goodIn_of _ (by decide +kernel)) ggX10_mean_X1_partOf
set_option maxRecDepth 20000 in
theorem ggX10_curve_X10_isDistance : GoodIn wsX10_curve wsX10_isDistance := goodIn_r _ [7] (by decide +kernel) (by decide +kernel)
set_option maxRecDepth 20000 in
theorem gX10_curve_X10_isDistance : GoodIn wsX10_curve (va_wsS RX10 129 yX10_isDistance wsX10_isDistance) := goodIn_app (goodIn_of _ (by decide +kernel)) ggX10_curve_X10_isDistance
set_option maxRecDepth 20000 in
theorem ggX10_curve_X0_lay : GoodIn wsX10_curve wsX0_lay := goodIn_r _ [12, 13, 14, 15, 16, 17, 18, 19, 20, 21, 22, 23, 24, 25, 26, 27, 28, 6, 29, 30, 31, 32, 33, 34, 35, 36, 37, 38, 39, 40, 41, 42, 11, 43, 44, 45, 46, 47, 48, 49, 50, 51, 52, 53, 54, 55, 56, 57, 58, 59, 60, 61, 62, 63, 64, 65, 66, 67, 68, 105, 106, 107, 108, 109, 110, 111, 112, 113, 95, 96, 97, 98, 99, 100, 101, 102, 103, 104] (by decide +kernel) (by decide +kernel)
set_option maxRecDepth 20000 in
theorem gX10_curve_X0_lay : GoodIn wsX10_curve (wsV RX10 162 RX0 yX0_lay wsX0_lay) := goodIn_app (goodIn_of _ (by decide +kernel)) ggX10_curve_X0_lay
set_option maxRecDepth 20000 in
theorem ggX10_curve_X0_bound : GoodIn wsX10_curve wsX0_bound := goodIn_r _ [43, 18, 44, 105, 106, 107, 108, 109, 110, 111, 112, 113] (by decide +kernel) (by decide +kernel)
set_option maxRecDepth 20000 in
theorem gX10_curve_X0_bound : GoodIn wsX10_curve (wsV RX10 215 RX0 yX0_bound wsX0_bound) := goodIn_app (goodIn_of _ (by decide +kernel)) ggX10_curve_X0_bound
set_option maxRecDepth 20000 in
theorem ggX10_curve_X3_openCells : GoodIn wsX10_curve wsX3_openCells := goodIn_r _ [48, 49, 50, 51, 24, 52, 26, 27, 53, 28, 6, 29, 30, 54, 55, 33, 56, 57, 58, 37, 59, 95, 96, 97, 98, 99, 100, 101, 102, 103, 104] (by decide +kernel) (by decide +kernel)
set_option maxRecDepth 20000 in
theorem gX10_curve_X3_openCells : GoodIn wsX10_curve (wsV RX10 152 RX3 yX3_openCells wsX3_openCells) := goodIn_app (goodIn_of _ (by decide +kernel)) ggX10_curve_X3_openCells
set_option maxRecDepth 20000 in
theorem ggX10_curve_X0_admit : GoodIn wsX10_curve wsX0_admit := goodIn_r _ [63, 64, 44, 65, 66, 37, 67, 68, 58, 59, 105, 106, 107, 108, 109, 110, 111, 112, 113] (by decide +kernel) (by decide +kernel)
set_option maxRecDepth 20000 in
theorem gX10_curve_X0_admit : GoodIn wsX10_curve (wsV RX10 211 RX0 yX0_admit wsX0_admit) := goodIn_app (goodIn_of _ (by decide +kernel)) ggX10_curve_X0_admit
set_option maxRecDepth 20000 in
theorem ggX10_curve_X0_pairsInAll : GoodIn wsX10_curve wsX0_pairsInAll := goodIn_r _ [75, 64, 76, 77, 11, 78, 79, 80, 81, 82, 83, 84, 85, 105, 106, 107, 108, 109, 110, 111, 112, 113] (by decide +kernel) (by decide +kernel)
set_option maxRecDepth 20000 in
theorem gX10_curve_X0_pairsInAll : GoodIn wsX10_curve (wsV RX10 165 RX0 yX0_pairsInAll wsX0_pairsInAll) := goodIn_app (goodIn_of _ (by decide +kernel)) ggX10_curve_X0_pairsInAll
set_option maxRecDepth 20000 in
theorem ggX10_judge_X10_isShelf : GoodIn wsX10_judge wsX10_isShelf := goodIn_r _ [6] (by decide +kernel) (by decide +kernel)
set_option maxRecDepth 20000 in
theorem gX10_judge_X10_isShelf : GoodIn wsX10_judge (va_wsS RX10 296 yX10_isShelf wsX10_isShelf) := goodIn_app (goodIn_of _ (by decide +kernel)) ggX10_judge_X10_isShelf
set_option maxRecDepth 20000 in
theorem ggX10_judge_X10_refusalOfRow : GoodIn wsX10_judge wsX10_refusalOfRow := goodIn_r _ [10, 11, 12, 13, 5, 14, 15, 3, 4, 6, 16, 17, 18, 19, 20, 21, 92, 93, 94, 95, 96, 97, 73, 74, 75, 76, 77, 78, 79, 80, 81] (by decide +kernel) (by decide +kernel)
set_option maxRecDepth 20000 in
theorem gX10_judge_X10_refusalOfRow : GoodIn wsX10_judge (wsV RX10 54 RX10 yX10_refusalOfRow wsX10_refusalOfRow) := goodIn_app (goodIn_of _ (by decide +kernel)) ggX10_judge_X10_refusalOfRow
set_option maxRecDepth 20000 in
theorem ggX10_judge_X10_shelfAt : GoodIn wsX10_judge wsX10_shelfAt := goodIn_r _ [19, 20, 21, 73, 74, 75, 76, 77, 78, 79, 80, 81] (by decide +kernel) (by decide +kernel)
set_option maxRecDepth 20000 in
theorem gX10_judge_X10_shelfAt : GoodIn wsX10_judge (wsV RX10 58 RX10 yX10_shelfAt wsX10_shelfAt) := goodIn_app (goodIn_of _ (by decide +kernel)) ggX10_judge_X10_shelfAt
set_option maxRecDepth 20000 in
theorem ggX10_judge_X9_firstWrongPlace : GoodIn wsX10_judge wsX9_firstWrongPlace := goodIn_r _ [25, 26, 27, 28, 29, 30, 31, 32, 33, 34, 35, 36, 37, 38, 39, 40, 5, 41, 42, 43, 44, 45, 46, 47, 48, 49, 50, 51, 52, 53, 54, 55, 56, 57, 58, 59, 60, 61, 62, 63, 64, 65, 66, 67, 68, 69, 70, 71, 72, 82, 83, 84, 85, 86, 87, 88, 89, 90, 91, 92, 93, 94, 95, 96, 97] (by decide +kernel) (by decide +kernel)
set_option maxRecDepth 20000 in
theorem gX10_judge_X9_firstWrongPlace : GoodIn wsX10_judge (va_wsS RX10 299 yX9_firstWrongPlace wsX9_firstWrongPlace) := goodIn_app (goodIn_of _ (by decide +kernel)) ggX10_judge_X9_firstWrongPlace
set_option maxRecDepth 20000 in
theorem ggX10_seeds_X10_isEither : GoodIn wsX10_seeds wsX10_isEither := goodIn_r _ [10] (by decide +kernel) (by decide +kernel)
set_option maxRecDepth 20000 in
theorem gX10_seeds_X10_isEither : GoodIn wsX10_seeds (va_wsS RX10 116 yX10_isEither wsX10_isEither) := goodIn_app (goodIn_of _ (by decide +kernel)) ggX10_seeds_X10_isEither
set_option maxRecDepth 20000 in
theorem ggX10_seeds_X3_bothStand : GoodIn wsX10_seeds wsX3_bothStand := goodIn_r _ [15, 16, 17, 94, 95, 96, 97, 98, 99, 100, 101, 102, 103] (by decide +kernel) (by decide +kernel)
set_option maxRecDepth 20000 in
theorem gX10_seeds_X3_bothStand : GoodIn wsX10_seeds (wsV RX10 218 RX3 yX3_bothStand wsX3_bothStand) := goodIn_app (goodIn_of _ (by decide +kernel)) ggX10_seeds_X3_bothStand
set_option maxRecDepth 20000 in
theorem ggX10_seeds_X3_becomes : GoodIn wsX10_seeds wsX3_becomes := goodIn_r _ [21, 22, 23, 24, 25, 26, 16, 17, 27, 28, 29, 94, 95, 96, 97, 98, 99, 100, 101, 102, 103] (by decide +kernel) (by decide +kernel)
set_option maxRecDepth 20000 in
theorem gX10_seeds_X3_becomes : GoodIn wsX10_seeds (wsV RX10 72 RX3 yX3_becomes wsX3_becomes) := goodIn_app (goodIn_of _ (by decide +kernel)) ggX10_seeds_X3_becomes
set_option maxRecDepth 20000 in
theorem ggX10_seeds_X10_nextSeed : GoodIn wsX10_seeds wsX10_nextSeed := goodIn_r _ [32, 33] (by decide +kernel) (by decide +kernel)
set_option maxRecDepth 20000 in
theorem gX10_seeds_X10_nextSeed : GoodIn wsX10_seeds (va_wsS RX10 308 yX10_nextSeed wsX10_nextSeed) := goodIn_app (goodIn_of _ (by decide +kernel)) ggX10_seeds_X10_nextSeed
set_option maxRecDepth 20000 in
theorem ggX10_seeds_X10_drawOf : GoodIn wsX10_seeds wsX10_drawOf := goodIn_r _ [36, 37, 38] (by decide +kernel) (by decide +kernel)
set_option maxRecDepth 20000 in
theorem gX10_seeds_X10_drawOf : GoodIn wsX10_seeds (va_wsS RX10 311 yX10_drawOf wsX10_drawOf) := goodIn_app (goodIn_of _ (by decide +kernel)) ggX10_seeds_X10_drawOf
set_option maxRecDepth 20000 in
theorem ggX10_seeds_X3_cellByOrStay : GoodIn wsX10_seeds wsX3_cellByOrStay := goodIn_r _ [42, 43, 44, 45, 14, 46, 47, 48, 49, 50, 51, 9, 52, 53, 54, 55, 56, 57, 22, 23, 24, 58, 59, 60, 61, 94, 95, 96, 97, 98, 99, 100, 101, 102, 103] (by decide +kernel) (by decide +kernel)
set_option maxRecDepth 20000 in
theorem gX10_seeds_X3_cellByOrStay : GoodIn wsX10_seeds (wsV RX10 314 RX3 yX3_cellByOrStay wsX3_cellByOrStay) := goodIn_app (goodIn_of _ (by decide +kernel)) ggX10_seeds_X3_cellByOrStay
set_option maxRecDepth 20000 in
theorem ggX10_seeds_X3_endDay : GoodIn wsX10_seeds wsX3_endDay := goodIn_r _ [65, 16, 17, 25, 28, 26, 29, 66, 67, 68, 14, 69, 70, 71, 72, 73, 74, 75, 49, 76, 77, 78, 79, 80, 81, 22, 23, 51, 9, 52, 53, 82, 83, 60, 84, 94, 95, 96, 97, 98, 99, 100, 101, 102, 103] (by decide +kernel) (by decide +kernel)
set_option maxRecDepth 20000 in
theorem gX10_seeds_X3_endDay : GoodIn wsX10_seeds (wsV RX10 317 RX3 yX3_endDay wsX3_endDay) := goodIn_app (goodIn_of _ (by decide +kernel)) ggX10_seeds_X3_endDay
set_option maxRecDepth 20000 in
theorem ggX10_image_X3_becomes : GoodIn wsX10_image wsX3_becomes := goodIn_r _ [9, 10, 11, 12, 13, 14, 15, 16, 17, 18, 19, 29, 30, 31, 32, 33, 34, 35, 36, 37, 38] (by decide +kernel) (by decide +kernel)
set_option maxRecDepth 20000 in
theorem gX10_image_X3_becomes : GoodIn wsX10_image (wsV RX10 72 RX3 yX3_becomes wsX3_becomes) := goodIn_app (goodIn_of _ (by decide +kernel)) ggX10_image_X3_becomes
set_option maxRecDepth 20000 in
theorem ggX10_restore_X3_becomes : GoodIn wsX10_restore wsX3_becomes := goodIn_r _ [9, 10, 11, 12, 13, 14, 15, 16, 17, 18, 19, 29, 30, 31, 32, 33, 34, 35, 36, 37, 38] (by decide +kernel) (by decide +kernel)
set_option maxRecDepth 20000 in
theorem gX10_restore_X3_becomes : GoodIn wsX10_restore (wsV RX10 72 RX3 yX3_becomes wsX3_becomes) := goodIn_app (goodIn_of _ (by decide +kernel)) ggX10_restore_X3_becomes
set_option maxRecDepth 20000 in
theorem ggX10_count_X3_openCells : GoodIn wsX10_count wsX3_openCells := goodIn_r _ [14, 15, 16, 17, 13, 18, 19, 20, 21, 22, 23, 24, 25, 26, 27, 28, 29, 30, 31, 32, 33, 50, 51, 52, 53, 54, 55, 56, 57, 58, 59] (by decide +kernel) (by decide +kernel)
set_option maxRecDepth 20000 in
theorem gX10_count_X3_openCells : GoodIn wsX10_count (wsV RX10 152 RX3 yX3_openCells wsX3_openCells) := goodIn_app (goodIn_of _ (by decide +kernel)) ggX10_count_X3_openCells
set_option maxRecDepth 20000 in
theorem ggX10_count_J13_bitCount_95d88 : GoodIn wsX10_count wsJ13_bitCount_95d88 := goodIn_r _ [37, 38, 39, 40] (by decide +kernel) (by decide +kernel)
set_option maxRecDepth 20000 in
theorem gX10_count_J13_bitCount_95d88 : GoodIn wsX10_count (va_wsS RX10 184 yJ13_bitCount_95d88 wsJ13_bitCount_95d88) := goodIn_app (goodIn_of _ (by decide +kernel)) ggX10_count_J13_bitCount_95d88
set_option maxRecDepth 20000 in
theorem ggX10_keep_X10_isShelf : GoodIn wsX10_keep wsX10_isShelf := goodIn_r _ [5] (by decide +kernel) (by decide +kernel)
set_option maxRecDepth 20000 in
theorem gX10_keep_X10_isShelf : GoodIn wsX10_keep (va_wsS RX10 296 yX10_isShelf wsX10_isShelf) := goodIn_app (goodIn_of _ (by decide +kernel)) ggX10_keep_X10_isShelf
set_option maxRecDepth 20000 in
theorem ggX10_keep_X10_isEither : GoodIn wsX10_keep wsX10_isEither := goodIn_r _ [8] (by decide +kernel) (by decide +kernel)
set_option maxRecDepth 20000 in
theorem gX10_keep_X10_isEither : GoodIn wsX10_keep (va_wsS RX10 116 yX10_isEither wsX10_isEither) := goodIn_app (goodIn_of _ (by decide +kernel)) ggX10_keep_X10_isEither
set_option maxRecDepth 20000 in
theorem ggX10_keep_X10_shelfAt : GoodIn wsX10_keep wsX10_shelfAt := goodIn_r _ [12, 13, 14, 33, 34, 35, 36, 37, 38, 39, 40, 41] (by decide +kernel) (by decide +kernel)
set_option maxRecDepth 20000 in
theorem gX10_keep_X10_shelfAt : GoodIn wsX10_keep (wsV RX10 58 RX10 yX10_shelfAt wsX10_shelfAt) := goodIn_app (goodIn_of _ (by decide +kernel)) ggX10_keep_X10_shelfAt
set_option maxRecDepth 20000 in
theorem ggX10_keep_X2_isKind : GoodIn wsX10_keep wsX2_isKind := goodIn_r _ [18] (by decide +kernel) (by decide +kernel)
set_option maxRecDepth 20000 in
theorem gX10_keep_X2_isKind : GoodIn wsX10_keep (va_wsS RX10 330 yX2_isKind wsX2_isKind) := goodIn_app (goodIn_of _ (by decide +kernel)) ggX10_keep_X2_isKind
set_option maxRecDepth 20000 in
theorem ggX10_keep_X5_takeGround : GoodIn wsX10_keep wsX5_takeGround := goodIn_r _ [23, 24, 25, 26, 27, 28, 29, 30, 31, 32] (by decide +kernel) (by decide +kernel)
set_option maxRecDepth 20000 in
theorem gX10_keep_X5_takeGround : GoodIn wsX10_keep (wsV RX10 333 RX5 yX5_takeGround wsX5_takeGround) := goodIn_app (goodIn_of _ (by decide +kernel)) ggX10_keep_X5_takeGround
set_option maxRecDepth 20000 in
theorem ggX10_row_X10_isShelf : GoodIn wsX10_row wsX10_isShelf := goodIn_r _ [4] (by decide +kernel) (by decide +kernel)
set_option maxRecDepth 20000 in
theorem gX10_row_X10_isShelf : GoodIn wsX10_row (va_wsS RX10 296 yX10_isShelf wsX10_isShelf) := goodIn_app (goodIn_of _ (by decide +kernel)) ggX10_row_X10_isShelf
set_option maxRecDepth 20000 in
theorem ggX10_row_X10_shelfAt : GoodIn wsX10_row wsX10_shelfAt := goodIn_r _ [8, 9, 10, 24, 25, 26, 27, 28, 29, 30, 31, 32] (by decide +kernel) (by decide +kernel)
set_option maxRecDepth 20000 in
theorem gX10_row_X10_shelfAt : GoodIn wsX10_row (wsV RX10 58 RX10 yX10_shelfAt wsX10_shelfAt) := goodIn_app (goodIn_of _ (by decide +kernel)) ggX10_row_X10_shelfAt
set_option maxRecDepth 20000 in
theorem ggX10_row_X5_takeRow : GoodIn wsX10_row wsX5_takeRow := goodIn_r _ [15, 16, 17, 18, 19, 20, 21, 22, 23, 33, 34, 35, 36, 37, 38] (by decide +kernel) (by decide +kernel)
set_option maxRecDepth 20000 in
theorem gX10_row_X5_takeRow : GoodIn wsX10_row (wsV RX10 336 RX5 yX5_takeRow wsX5_takeRow) := goodIn_app (goodIn_of _ (by decide +kernel)) ggX10_row_X5_takeRow
set_option maxRecDepth 20000 in
theorem ggX10_put_X10_refusalOfRow : GoodIn wsX10_put wsX10_refusalOfRow := goodIn_r _ [5, 6, 7, 8, 4, 9, 10, 11, 12, 13, 14, 15, 16, 17, 18, 19, 32, 33, 34, 35, 36, 37, 38, 39, 40, 41, 42, 43, 44, 45, 46] (by decide +kernel) (by decide +kernel)
set_option maxRecDepth 20000 in
theorem gX10_put_X10_refusalOfRow : GoodIn wsX10_put (wsV RX10 54 RX10 yX10_refusalOfRow wsX10_refusalOfRow) := goodIn_app (goodIn_of _ (by decide +kernel)) ggX10_put_X10_refusalOfRow
set_option maxRecDepth 20000 in
theorem ggX10_put_X10_shelfAt : GoodIn wsX10_put wsX10_shelfAt := goodIn_r _ [17, 18, 19, 38, 39, 40, 41, 42, 43, 44, 45, 46] (by decide +kernel) (by decide +kernel)
set_option maxRecDepth 20000 in
theorem gX10_put_X10_shelfAt : GoodIn wsX10_put (wsV RX10 58 RX10 yX10_shelfAt wsX10_shelfAt) := goodIn_app (goodIn_of _ (by decide +kernel)) ggX10_put_X10_shelfAt
set_option maxRecDepth 20000 in
theorem ggX10_put_X5_hasPlace : GoodIn wsX10_put wsX5_hasPlace := goodIn_r _ [24, 25, 32, 33, 34, 35, 36, 37] (by decide +kernel) (by decide +kernel)
set_option maxRecDepth 20000 in
theorem gX10_put_X5_hasPlace : GoodIn wsX10_put (wsV RX10 339 RX5 yX5_hasPlace wsX5_hasPlace) := goodIn_app (goodIn_of _ (by decide +kernel)) ggX10_put_X5_hasPlace
set_option maxRecDepth 20000 in
theorem ggX10_put_X5_write : GoodIn wsX10_put wsX5_write := goodIn_r _ [29, 25, 30, 31, 32, 33, 34, 35, 36, 37] (by decide +kernel) (by decide +kernel)
set_option maxRecDepth 20000 in
theorem gX10_put_X5_write : GoodIn wsX10_put (wsV RX10 342 RX5 yX5_write wsX5_write) := goodIn_app (goodIn_of _ (by decide +kernel)) ggX10_put_X5_write
set_option maxRecDepth 20000 in
theorem ggX10_element_X10_isShelf : GoodIn wsX10_element wsX10_isShelf := goodIn_r _ [9] (by decide +kernel) (by decide +kernel)
set_option maxRecDepth 20000 in
theorem gX10_element_X10_isShelf : GoodIn wsX10_element (va_wsS RX10 296 yX10_isShelf wsX10_isShelf) := goodIn_app (goodIn_of _ (by decide +kernel)) ggX10_element_X10_isShelf
set_option maxRecDepth 20000 in
theorem ggX10_element_X10_shelfAt : GoodIn wsX10_element wsX10_shelfAt := goodIn_r _ [13, 14, 15, 33, 34, 35, 36, 37, 38, 39, 40, 41] (by decide +kernel) (by decide +kernel)
set_option maxRecDepth 20000 in
theorem gX10_element_X10_shelfAt : GoodIn wsX10_element (wsV RX10 58 RX10 yX10_shelfAt wsX10_shelfAt) := goodIn_app (goodIn_of _ (by decide +kernel)) ggX10_element_X10_shelfAt
set_option maxRecDepth 20000 in
theorem ggX10_element_X5_hasPlace : GoodIn wsX10_element wsX5_hasPlace := goodIn_r _ [20, 21, 27, 28, 29, 30, 31, 32] (by decide +kernel) (by decide +kernel)
set_option maxRecDepth 20000 in
theorem gX10_element_X5_hasPlace : GoodIn wsX10_element (wsV RX10 339 RX5 yX5_hasPlace wsX5_hasPlace) := goodIn_app (goodIn_of _ (by decide +kernel)) ggX10_element_X5_hasPlace
set_option maxRecDepth 20000 in
theorem ggX10_element_X5_numberAt : GoodIn wsX10_element wsX5_numberAt := goodIn_r _ [25, 21, 26, 27, 28, 29, 30, 31, 32] (by decide +kernel) (by decide +kernel)
set_option maxRecDepth 20000 in
theorem gX10_element_X5_numberAt : GoodIn wsX10_element (wsV RX10 359 RX5 yX5_numberAt wsX5_numberAt) := goodIn_app (goodIn_of _ (by decide +kernel)) ggX10_element_X5_numberAt
set_option maxRecDepth 20000 in
theorem ggX10_copy_X10_isShelf : GoodIn wsX10_copy wsX10_isShelf := goodIn_r _ [11] (by decide +kernel) (by decide +kernel)
set_option maxRecDepth 20000 in
theorem gX10_copy_X10_isShelf : GoodIn wsX10_copy (va_wsS RX10 296 yX10_isShelf wsX10_isShelf) := goodIn_app (goodIn_of _ (by decide +kernel)) ggX10_copy_X10_isShelf
set_option maxRecDepth 20000 in
theorem ggX10_copy_X10_shelfAt : GoodIn wsX10_copy wsX10_shelfAt := goodIn_r _ [15, 16, 17, 30, 31, 32, 33, 34, 35, 36, 37, 38] (by decide +kernel) (by decide +kernel)
set_option maxRecDepth 20000 in
theorem gX10_copy_X10_shelfAt : GoodIn wsX10_copy (wsV RX10 58 RX10 yX10_shelfAt wsX10_shelfAt) := goodIn_app (goodIn_of _ (by decide +kernel)) ggX10_copy_X10_shelfAt
set_option maxRecDepth 20000 in
theorem ggX10_copy_X5_hasPlaces : GoodIn wsX10_copy wsX5_hasPlaces := goodIn_r _ [22, 23, 24, 25, 26, 27, 28, 29] (by decide +kernel) (by decide +kernel)
set_option maxRecDepth 20000 in
theorem gX10_copy_X5_hasPlaces : GoodIn wsX10_copy (wsV RX10 362 RX5 yX5_hasPlaces wsX5_hasPlaces) := goodIn_app (goodIn_of _ (by decide +kernel)) ggX10_copy_X5_hasPlaces
set_option maxRecDepth 20000 in
theorem ggX10_cost_X10_refusalOfGround : GoodIn wsX10_cost wsX10_refusalOfGround := goodIn_r _ [7, 8, 9, 10, 6, 11, 12, 13, 14, 15, 16, 17, 18, 19, 20, 21, 30, 31, 32, 33, 34, 35, 36, 37, 38, 39, 40, 41, 42, 43, 44] (by decide +kernel) (by decide +kernel)
set_option maxRecDepth 20000 in
theorem gX10_cost_X10_refusalOfGround : GoodIn wsX10_cost (wsV RX10 103 RX10 yX10_refusalOfGround wsX10_refusalOfGround) := goodIn_app (goodIn_of _ (by decide +kernel)) ggX10_cost_X10_refusalOfGround
set_option maxRecDepth 20000 in
theorem ggX10_cost_X10_shelfAt : GoodIn wsX10_cost wsX10_shelfAt := goodIn_r _ [19, 20, 21, 36, 37, 38, 39, 40, 41, 42, 43, 44] (by decide +kernel) (by decide +kernel)
set_option maxRecDepth 20000 in
theorem gX10_cost_X10_shelfAt : GoodIn wsX10_cost (wsV RX10 58 RX10 yX10_shelfAt wsX10_shelfAt) := goodIn_app (goodIn_of _ (by decide +kernel)) ggX10_cost_X10_shelfAt
set_option maxRecDepth 20000 in
theorem ggX10_cost_X2_costOf : GoodIn wsX10_cost wsX2_costOf := goodIn_r _ [25, 26, 27, 28, 29] (by decide +kernel) (by decide +kernel)
set_option maxRecDepth 20000 in
theorem gX10_cost_X2_costOf : GoodIn wsX10_cost (va_wsS RX10 375 yX2_costOf wsX2_costOf) := goodIn_app (goodIn_of _ (by decide +kernel)) ggX10_cost_X2_costOf
set_option maxRecDepth 20000 in
theorem ggX10_toss_X10_refusalOfGround : GoodIn wsX10_toss wsX10_refusalOfGround := goodIn_r _ [10, 11, 12, 13, 9, 14, 15, 16, 17, 18, 19, 20, 21, 22, 23, 24, 42, 43, 44, 45, 46, 47, 48, 49, 50, 51, 52, 53, 54, 55, 56] (by decide +kernel) (by decide +kernel)
set_option maxRecDepth 20000 in
theorem gX10_toss_X10_refusalOfGround : GoodIn wsX10_toss (wsV RX10 103 RX10 yX10_refusalOfGround wsX10_refusalOfGround) := goodIn_app (goodIn_of _ (by decide +kernel)) ggX10_toss_X10_refusalOfGround
set_option maxRecDepth 20000 in
theorem ggX10_toss_X10_shelfAt : GoodIn wsX10_toss wsX10_shelfAt := goodIn_r _ [22, 23, 24, 48, 49, 50, 51, 52, 53, 54, 55, 56] (by decide +kernel) (by decide +kernel)
set_option maxRecDepth 20000 in
theorem gX10_toss_X10_shelfAt : GoodIn wsX10_toss (wsV RX10 58 RX10 yX10_shelfAt wsX10_shelfAt) := goodIn_app (goodIn_of _ (by decide +kernel)) ggX10_toss_X10_shelfAt
set_option maxRecDepth 20000 in
theorem ggX10_toss_X2_fail : GoodIn wsX10_toss wsX2_fail := goodIn_ca (goodIn_ca (goodIn_ca (goodIn_r _ [28, 29, 30, 31, 32, 33, 34] (by decide +kernel) (by decide +kernel)) (goodIn_sub (fun _ h => List.mem_cons_of_mem _ (List.mem_append_left _ (List.mem_append_left _ (List.mem_append_right _ h)))) (by decide +kernel))) (goodIn_sub (fun _ h => List.mem_cons_of_mem _ (List.mem_append_left _ (List.mem_append_right _ h))) (by decide +kernel))) (goodIn_sub (fun _ h => List.mem_cons_of_mem _ (List.mem_append_right _ h)) (by decide +kernel))
set_option maxRecDepth 20000 in
theorem gX10_toss_X2_fail : GoodIn wsX10_toss (va_wsS RX10 378 yX2_fail wsX2_fail) := goodIn_app (goodIn_of _ (by decide +kernel)) ggX10_toss_X2_fail
set_option maxRecDepth 20000 in
theorem ggX10_toss_X2_costOf : GoodIn wsX10_toss wsX2_costOf := goodIn_r _ [37, 38, 39, 40, 41] (by decide +kernel) (by decide +kernel)
set_option maxRecDepth 20000 in
theorem gX10_toss_X2_costOf : GoodIn wsX10_toss (va_wsS RX10 375 yX2_costOf wsX2_costOf) := goodIn_app (goodIn_of _ (by decide +kernel)) ggX10_toss_X2_costOf
set_option maxRecDepth 20000 in
theorem ggX10_refusalOfRow_X10_refusalUnless : GoodIn wsX10_refusalOfRow wsX10_refusalUnless := goodIn_r _ [5, 6, 7, 8, 4, 9, 10, 11, 12, 13, 14, 15, 16, 17, 18, 19, 20, 21, 22, 23, 24, 25, 26, 27, 28, 29, 30] (by decide +kernel) (by decide +kernel)
set_option maxRecDepth 20000 in
theorem gX10_refusalOfRow_X10_refusalUnless : GoodIn wsX10_refusalOfRow (wsV RX10 385 RX10 yX10_refusalUnless wsX10_refusalUnless) := goodIn_app (goodIn_of _ (by decide +kernel)) ggX10_refusalOfRow_X10_refusalUnless
set_option maxRecDepth 20000 in
theorem ggX10_refusalOfGround_X10_refusalUnless : GoodIn wsX10_refusalOfGround wsX10_refusalUnless := goodIn_r _ [5, 6, 7, 8, 4, 9, 10, 11, 12, 13, 14, 15, 16, 17, 18, 19, 20, 21, 22, 23, 24, 25, 26, 27, 28, 29, 30] (by decide +kernel) (by decide +kernel)
set_option maxRecDepth 20000 in
theorem gX10_refusalOfGround_X10_refusalUnless : GoodIn wsX10_refusalOfGround (wsV RX10 385 RX10 yX10_refusalUnless wsX10_refusalUnless) := goodIn_app (goodIn_of _ (by decide +kernel)) ggX10_refusalOfGround_X10_refusalUnless
set_option maxRecDepth 20000 in
theorem ggX10_refusalUnless_X10_isShelf : GoodIn wsX10_refusalUnless wsX10_isShelf := goodIn_r _ [5] (by decide +kernel) (by decide +kernel)
set_option maxRecDepth 20000 in
theorem gX10_refusalUnless_X10_isShelf : GoodIn wsX10_refusalUnless (va_wsS RX10 296 yX10_isShelf wsX10_isShelf) := goodIn_app (goodIn_of _ (by decide +kernel)) ggX10_refusalUnless_X10_isShelf
set_option maxRecDepth 20000 in
theorem ggX10_refusalUnless_X10_shelfAt : GoodIn wsX10_refusalUnless wsX10_shelfAt := goodIn_r _ [9, 10, 11, 18, 19, 20, 21, 22, 23, 24, 25, 26] (by decide +kernel) (by decide +kernel)
set_option maxRecDepth 20000 in
theorem gX10_refusalUnless_X10_shelfAt : GoodIn wsX10_refusalUnless (wsV RX10 58 RX10 yX10_shelfAt wsX10_shelfAt) := goodIn_app (goodIn_of _ (by decide +kernel)) ggX10_refusalUnless_X10_shelfAt
set_option maxRecDepth 20000 in
theorem ggX10_refusalOfTrack_X10_refusalOfRow : GoodIn wsX10_refusalOfTrack wsX10_refusalOfRow := goodIn_r _ [5, 6, 7, 8, 4, 9, 10, 11, 12, 13, 14, 15, 16, 17, 18, 19, 35, 36, 37, 38, 39, 40, 41, 42, 43, 44, 45, 46, 47, 48, 49] (by decide +kernel) (by decide +kernel)
set_option maxRecDepth 20000 in
theorem gX10_refusalOfTrack_X10_refusalOfRow : GoodIn wsX10_refusalOfTrack (wsV RX10 54 RX10 yX10_refusalOfRow wsX10_refusalOfRow) := goodIn_app (goodIn_of _ (by decide +kernel)) ggX10_refusalOfTrack_X10_refusalOfRow
set_option maxRecDepth 20000 in
theorem ggX10_refusalOfTrack_X10_shelfAt : GoodIn wsX10_refusalOfTrack wsX10_shelfAt := goodIn_r _ [17, 18, 19, 41, 42, 43, 44, 45, 46, 47, 48, 49] (by decide +kernel) (by decide +kernel)
set_option maxRecDepth 20000 in
theorem gX10_refusalOfTrack_X10_shelfAt : GoodIn wsX10_refusalOfTrack (wsV RX10 58 RX10 yX10_shelfAt wsX10_shelfAt) := goodIn_app (goodIn_of _ (by decide +kernel)) ggX10_refusalOfTrack_X10_shelfAt
set_option maxRecDepth 20000 in
theorem ggX10_refusalOfTrack_X9_isOfCells : GoodIn wsX10_refusalOfTrack wsX9_isOfCells := goodIn_r _ [23, 24, 25, 26, 27, 28, 29, 30, 31, 32, 4, 33, 34, 35, 36, 37, 38, 39, 40] (by decide +kernel) (by decide +kernel)
set_option maxRecDepth 20000 in
theorem gX10_refusalOfTrack_X9_isOfCells : GoodIn wsX10_refusalOfTrack (va_wsS RX10 388 yX9_isOfCells wsX9_isOfCells) := goodIn_app (goodIn_of _ (by decide +kernel)) ggX10_refusalOfTrack_X9_isOfCells
set_option maxRecDepth 20000 in
theorem ggX10_refusalToSee_X10_isCell : GoodIn wsX10_refusalToSee wsX10_isCell := goodIn_r _ [5, 6] (by decide +kernel) (by decide +kernel)
set_option maxRecDepth 20000 in
theorem gX10_refusalToSee_X10_isCell : GoodIn wsX10_refusalToSee (va_wsS RX10 83 yX10_isCell wsX10_isCell) := goodIn_app (goodIn_of _ (by decide +kernel)) ggX10_refusalToSee_X10_isCell
set_option maxRecDepth 20000 in
theorem ggX10_refusalToSee_X3_bothStand : GoodIn wsX10_refusalToSee wsX3_bothStand := goodIn_r _ [11, 12, 13, 23, 24, 25, 26, 27, 28, 29, 30, 31, 32] (by decide +kernel) (by decide +kernel)
set_option maxRecDepth 20000 in
theorem gX10_refusalToSee_X3_bothStand : GoodIn wsX10_refusalToSee (wsV RX10 218 RX3 yX3_bothStand wsX3_bothStand) := goodIn_app (goodIn_of _ (by decide +kernel)) ggX10_refusalToSee_X3_bothStand
set_option maxRecDepth 20000 in
theorem ggX10_refusalToCount_X3_bothStand : GoodIn wsX10_refusalToCount wsX3_bothStand := goodIn_r _ [6, 7, 8, 18, 19, 20, 21, 22, 23, 24, 25, 26, 27] (by decide +kernel) (by decide +kernel)
set_option maxRecDepth 20000 in
theorem gX10_refusalToCount_X3_bothStand : GoodIn wsX10_refusalToCount (wsV RX10 218 RX3 yX3_bothStand wsX3_bothStand) := goodIn_app (goodIn_of _ (by decide +kernel)) ggX10_refusalToCount_X3_bothStand
set_option maxRecDepth 20000 in
theorem ggX11_isCell_X11_in : GoodIn wsX11_isCell wsX11_in := goodIn_r _ [5] (by decide +kernel) (by decide +kernel)
set_option maxRecDepth 20000 in
theorem gX11_isCell_X11_in : GoodIn wsX11_isCell (va_wsS RX11 92 yX11_in wsX11_in) := goodIn_app (goodIn_of _ (by decide +kernel)) ggX11_isCell_X11_in
set_option maxRecDepth 20000 in
theorem ggX11_farOf_X11_plainly : GoodIn wsX11_farOf wsX11_plainly := goodIn_r _ [4] (by decide +kernel) (by decide +kernel)
set_option maxRecDepth 20000 in
theorem gX11_farOf_X11_plainly : GoodIn wsX11_farOf (va_wsS RX11 99 yX11_plainly wsX11_plainly) := goodIn_app (goodIn_of _ (by decide +kernel)) ggX11_farOf_X11_plainly
set_option maxRecDepth 20000 in
theorem ggX11_farOf_X11_heightOf : GoodIn wsX11_farOf wsX11_heightOf := goodIn_r _ [8, 9, 10, 11, 12, 13, 14, 15, 16, 17, 18, 19, 20, 21, 22, 23, 24, 25, 26, 27, 28, 29, 30, 31, 32, 33, 34, 35, 36, 37, 38, 39, 40, 41, 42, 43, 44, 45, 46, 47, 48, 49] (by decide +kernel) (by decide +kernel)
set_option maxRecDepth 20000 in
theorem gX11_farOf_X11_heightOf : GoodIn wsX11_farOf (wsV RX11 103 RX11 yX11_heightOf wsX11_heightOf) := goodIn_app (goodIn_of _ (by decide +kernel)) ggX11_farOf_X11_heightOf
set_option maxRecDepth 20000 in
theorem ggX11_isOff_X11_farOf : GoodIn wsX11_isOff wsX11_farOf := goodIn_r _ [7, 8, 9, 6, 10, 11, 12, 13, 14, 15, 16, 17, 18, 19, 20, 21, 22, 23, 24, 25, 26, 27, 28, 29, 30, 31, 32, 33, 34, 35, 36, 37, 38, 39, 40, 41, 42, 43, 44, 45, 46, 47, 48, 49, 50, 51, 52, 53, 54, 55] (by decide +kernel) (by decide +kernel)
set_option maxRecDepth 20000 in
theorem gX11_isOff_X11_farOf : GoodIn wsX11_isOff (wsV RX11 106 RX11 yX11_farOf wsX11_farOf) := goodIn_app (goodIn_of _ (by decide +kernel)) ggX11_isOff_X11_farOf
set_option maxRecDepth 20000 in
theorem ggX11_goneTo_X11_beside : GoodIn wsX11_goneTo wsX11_beside := goodIn_r _ [4] (by decide +kernel) (by decide +kernel)
set_option maxRecDepth 20000 in
theorem gX11_goneTo_X11_beside : GoodIn wsX11_goneTo (va_wsS RX11 110 yX11_beside wsX11_beside) := goodIn_app (goodIn_of _ (by decide +kernel)) ggX11_goneTo_X11_beside
set_option maxRecDepth 20000 in
theorem ggX11_goneTo_X11_isOpen : GoodIn wsX11_goneTo wsX11_isOpen := goodIn_r _ [8, 9, 10, 11, 12, 13, 14, 15, 16, 17, 18, 19, 20, 21, 22, 23, 24, 25, 26, 27, 28, 29, 30, 31, 32, 33, 34, 35, 36, 37, 38, 39, 40, 41, 42, 43, 44, 45, 46, 47, 48, 49, 50, 51] (by decide +kernel) (by decide +kernel)
set_option maxRecDepth 20000 in
theorem gX11_goneTo_X11_isOpen : GoodIn wsX11_goneTo (wsV RX11 113 RX11 yX11_isOpen wsX11_isOpen) := goodIn_app (goodIn_of _ (by decide +kernel)) ggX11_goneTo_X11_isOpen
set_option maxRecDepth 20000 in
theorem ggX11_openCells_X11_isOpen : GoodIn wsX11_openCells wsX11_isOpen := goodIn_r _ [5, 6, 7, 8, 9, 10, 11, 12, 13, 14, 15, 16, 17, 18, 19, 20, 21, 22, 23, 24, 25, 26, 27, 28, 29, 30, 31, 32, 33, 34, 35, 36, 37, 38, 39, 40, 41, 42, 43, 44, 45, 46, 47, 48] (by decide +kernel) (by decide +kernel)
set_option maxRecDepth 20000 in
theorem gX11_openCells_X11_isOpen : GoodIn wsX11_openCells (wsV RX11 113 RX11 yX11_isOpen wsX11_isOpen) := goodIn_app (goodIn_of _ (by decide +kernel)) ggX11_openCells_X11_isOpen
set_option maxRecDepth 20000 in
theorem ggX11_goOn_X11_isOn : GoodIn wsX11_goOn wsX11_isOn := goodIn_r _ [4] (by decide +kernel) (by decide +kernel)
set_option maxRecDepth 20000 in
theorem gX11_goOn_X11_isOn : GoodIn wsX11_goOn (va_wsS RX11 117 yX11_isOn wsX11_isOn) := goodIn_app (goodIn_of _ (by decide +kernel)) ggX11_goOn_X11_isOn
set_option maxRecDepth 20000 in
theorem ggX11_goOn_X11_goneTo : GoodIn wsX11_goOn wsX11_goneTo := goodIn_r _ [8, 9, 10, 3, 11, 12, 13, 14, 15, 16, 17, 18, 19, 20, 21, 22, 23, 24, 25, 26, 27, 28, 29, 30, 31, 32, 33, 34, 35, 36, 37, 38, 39, 40, 41, 42, 43, 44, 45, 46, 47, 48, 49, 50, 51, 52, 53, 54, 55, 56, 57, 58] (by decide +kernel) (by decide +kernel)
set_option maxRecDepth 20000 in
theorem gX11_goOn_X11_goneTo : GoodIn wsX11_goOn (wsV RX11 121 RX11 yX11_goneTo wsX11_goneTo) := goodIn_app (goodIn_of _ (by decide +kernel)) ggX11_goOn_X11_goneTo
set_option maxRecDepth 20000 in
theorem ggX11_goOn_X11_isOpen : GoodIn wsX11_goOn wsX11_isOpen := goodIn_r _ [15, 16, 17, 18, 19, 20, 21, 22, 23, 24, 25, 26, 27, 28, 29, 30, 31, 32, 33, 34, 35, 36, 37, 38, 39, 40, 41, 42, 43, 44, 45, 46, 47, 48, 49, 50, 51, 52, 53, 54, 55, 56, 57, 58] (by decide +kernel) (by decide +kernel)
set_option maxRecDepth 20000 in
theorem gX11_goOn_X11_isOpen : GoodIn wsX11_goOn (wsV RX11 113 RX11 yX11_isOpen wsX11_isOpen) := goodIn_app (goodIn_of _ (by decide +kernel)) ggX11_goOn_X11_isOpen
set_option maxRecDepth 20000 in
theorem ggX11_readDigits_X11_here : GoodIn wsX11_readDigits wsX11_here := goodIn_r _ [9, 4, 10, 11, 12, 16, 17, 18, 19, 20, 21, 22, 23, 24, 25, 26, 27, 28, 29, 30, 31, 32, 33, 34, 35, 36, 37, 38, 39, 40, 41, 42, 43, 44, 45, 46, 47, 48, 49, 50, 51, 52, 53, 54] (by decide +kernel) (by decide +kernel)
set_option maxRecDepth 20000 in
theorem gX11_readDigits_X11_here : GoodIn wsX11_readDigits (wsV RX11 134 RX11 yX11_here wsX11_here) := goodIn_app (goodIn_of _ (by decide +kernel)) ggX11_readDigits_X11_here
set_option maxRecDepth 20000 in
theorem ggX11_readDigits_X11_in : GoodIn wsX11_readDigits wsX11_in := goodIn_r _ [15] (by decide +kernel) (by decide +kernel)
set_option maxRecDepth 20000 in
theorem gX11_readDigits_X11_in : GoodIn wsX11_readDigits (va_wsS RX11 92 yX11_in wsX11_in) := goodIn_app (goodIn_of _ (by decide +kernel)) ggX11_readDigits_X11_in
set_option maxRecDepth 20000 in
theorem ggX11_readStatement_X11_here : GoodIn wsX11_readStatement wsX11_here := goodIn_r _ [11, 3, 12, 13, 14, 27, 28, 29, 30, 31, 32, 33, 34, 35, 36, 37, 38, 39, 40, 41, 42, 43, 44, 45, 46, 47, 48, 49, 50, 51, 52, 53, 54, 55, 56, 57, 58, 59, 60, 61, 62, 63, 64, 65] (by decide +kernel) (by decide +kernel)
set_option maxRecDepth 20000 in
theorem gX11_readStatement_X11_here : GoodIn wsX11_readStatement (wsV RX11 134 RX11 yX11_here wsX11_here) := goodIn_app (goodIn_of _ (by decide +kernel)) ggX11_readStatement_X11_here
set_option maxRecDepth 20000 in
theorem ggX11_readStatement_X11_isLetter : GoodIn wsX11_readStatement wsX11_isLetter := goodIn_r _ [17] (by decide +kernel) (by decide +kernel)
set_option maxRecDepth 20000 in
theorem gX11_readStatement_X11_isLetter : GoodIn wsX11_readStatement (va_wsS RX11 145 yX11_isLetter wsX11_isLetter) := goodIn_app (goodIn_of _ (by decide +kernel)) ggX11_readStatement_X11_isLetter
set_option maxRecDepth 20000 in
theorem ggX11_readStatement_X11_readDigits : GoodIn wsX11_readStatement wsX11_readDigits := goodIn_r _ [21, 5, 22, 23, 3, 7, 8, 9, 10, 11, 12, 13, 14, 24, 25, 26, 27, 28, 29, 30, 31, 32, 33, 34, 35, 36, 37, 38, 39, 40, 41, 42, 43, 44, 45, 46, 47, 48, 49, 50, 51, 52, 53, 54, 55, 56, 57, 58, 59, 60, 61, 62, 63, 64, 65] (by decide +kernel) (by decide +kernel)
set_option maxRecDepth 20000 in
theorem gX11_readStatement_X11_readDigits : GoodIn wsX11_readStatement (wsV RX11 148 RX11 yX11_readDigits wsX11_readDigits) := goodIn_app (goodIn_of _ (by decide +kernel)) ggX11_readStatement_X11_readDigits
set_option maxRecDepth 20000 in
theorem ggX11_canGo_X11_goneTo : GoodIn wsX11_canGo wsX11_goneTo := goodIn_r _ [8, 9, 10, 7, 11, 12, 13, 14, 15, 16, 17, 18, 19, 20, 21, 22, 23, 24, 25, 26, 27, 28, 29, 30, 31, 32, 33, 34, 35, 36, 37, 38, 39, 40, 41, 42, 43, 44, 45, 46, 47, 48, 49, 50, 51, 52, 53, 54, 55, 56, 57, 58] (by decide +kernel) (by decide +kernel)
set_option maxRecDepth 20000 in
theorem gX11_canGo_X11_goneTo : GoodIn wsX11_canGo (wsV RX11 121 RX11 yX11_goneTo wsX11_goneTo) := goodIn_app (goodIn_of _ (by decide +kernel)) ggX11_canGo_X11_goneTo
set_option maxRecDepth 20000 in
theorem ggX11_goBoth_X11_goneTo : GoodIn wsX11_goBoth wsX11_goneTo := goodIn_r _ [12, 13, 14, 11, 15, 16, 17, 18, 19, 20, 21, 22, 23, 35, 36, 37, 38, 39, 40, 41, 42, 43, 44, 45, 46, 47, 48, 49, 50, 51, 52, 53, 54, 55, 56, 57, 58, 59, 60, 61, 62, 63, 64, 65, 66, 67, 68, 69, 70, 71, 72, 73] (by decide +kernel) (by decide +kernel)
set_option maxRecDepth 20000 in
theorem gX11_goBoth_X11_goneTo : GoodIn wsX11_goBoth (wsV RX11 121 RX11 yX11_goneTo wsX11_goneTo) := goodIn_app (goodIn_of _ (by decide +kernel)) ggX11_goBoth_X11_goneTo
set_option maxRecDepth 20000 in
theorem ggX11_goBoth_X11_farOf : GoodIn wsX11_goBoth wsX11_farOf := goodIn_r _ [27, 28, 29, 11, 30, 31, 32, 33, 34, 21, 23, 35, 36, 37, 38, 39, 40, 41, 42, 43, 44, 45, 46, 47, 48, 49, 50, 51, 52, 53, 54, 55, 56, 57, 58, 59, 60, 61, 62, 63, 64, 65, 66, 67, 68, 69, 70, 71, 72, 73] (by decide +kernel) (by decide +kernel)
set_option maxRecDepth 20000 in
theorem gX11_goBoth_X11_farOf : GoodIn wsX11_goBoth (wsV RX11 106 RX11 yX11_farOf wsX11_farOf) := goodIn_app (goodIn_of _ (by decide +kernel)) ggX11_goBoth_X11_farOf
set_option maxRecDepth 20000 in
theorem ggX11_comes_X11_canGo : GoodIn wsX11_comes wsX11_canGo := goodIn_r _ [14, 8, 9, 15, 16, 17, 18, 13, 19, 20, 21, 22, 23, 24, 25, 26, 27, 3, 7, 4, 45, 46, 47, 48, 49, 50, 51, 52, 53, 54, 55, 56, 57, 58, 59, 60, 61, 62, 63, 64, 65, 66, 67, 68, 69, 70, 71, 72, 73, 74, 75, 76, 77, 78, 79, 80, 81, 82, 83] (by decide +kernel) (by decide +kernel)
set_option maxRecDepth 20000 in
theorem gX11_comes_X11_canGo : GoodIn wsX11_comes (wsV RX11 160 RX11 yX11_canGo wsX11_canGo) := goodIn_app (goodIn_of _ (by decide +kernel)) ggX11_comes_X11_canGo
set_option maxRecDepth 20000 in
theorem ggX11_comes_X11_goBoth : GoodIn wsX11_comes wsX11_goBoth := goodIn_r _ [31, 8, 9, 32, 5, 33, 6, 15, 16, 17, 18, 13, 19, 20, 21, 22, 23, 24, 25, 26, 27, 3, 7, 4, 34, 35, 36, 37, 38, 39, 40, 41, 42, 43, 44, 45, 46, 47, 48, 49, 50, 51, 52, 53, 54, 55, 56, 57, 58, 59, 60, 61, 62, 63, 64, 65, 66, 67, 68, 69, 70, 71, 72, 73, 74, 75, 76, 77, 78, 79, 80, 81, 82, 83] (by decide +kernel) (by decide +kernel)
set_option maxRecDepth 20000 in
theorem gX11_comes_X11_goBoth : GoodIn wsX11_comes (wsV RX11 164 RX11 yX11_goBoth wsX11_goBoth) := goodIn_app (goodIn_of _ (by decide +kernel)) ggX11_comes_X11_goBoth
set_option maxRecDepth 20000 in
theorem ggX11_comes_X11_isOpen : GoodIn wsX11_comes wsX11_isOpen := goodIn_r _ [26, 27, 3, 7, 4, 45, 46, 47, 48, 49, 50, 51, 52, 53, 54, 55, 56, 57, 58, 59, 60, 61, 62, 63, 64, 65, 66, 67, 68, 69, 70, 71, 72, 73, 74, 75, 76, 77, 78, 79, 80, 81, 82, 83] (by decide +kernel) (by decide +kernel)
set_option maxRecDepth 20000 in
theorem gX11_comes_X11_isOpen : GoodIn wsX11_comes (wsV RX11 113 RX11 yX11_isOpen wsX11_isOpen) := goodIn_app (goodIn_of _ (by decide +kernel)) ggX11_comes_X11_isOpen
set_option maxRecDepth 20000 in
theorem ggX11_land_X11_wrongRow : GoodIn wsX11_land wsX11_wrongRow := goodIn_r _ [14, 15, 16, 17, 18, 13, 19, 96, 97, 98, 99, 100, 101, 102, 103, 104, 105, 106, 107, 108, 109, 110, 111, 112, 113, 114, 115, 116, 117, 118, 119, 120, 121, 122, 123, 124, 125, 126, 127, 128, 129, 130, 131, 132, 133, 134] (by decide +kernel) (by decide +kernel)
set_option maxRecDepth 20000 in
theorem gX11_land_X11_wrongRow : GoodIn wsX11_land (wsV RX11 168 RX11 yX11_wrongRow wsX11_wrongRow) := goodIn_app (goodIn_of _ (by decide +kernel)) ggX11_land_X11_wrongRow
set_option maxRecDepth 20000 in
theorem ggX11_land_X11_readStatement : GoodIn wsX11_land wsX11_readStatement := goodIn_r _ [23, 6, 9, 4, 24, 5, 25, 26, 27, 28, 13, 29, 7, 3, 30, 31, 32, 33, 34, 35, 36, 37, 38, 39, 17, 18, 19, 96, 97, 98, 99, 100, 101, 102, 103, 104, 105, 106, 107, 108, 109, 110, 111, 112, 113, 114, 115, 116, 117, 118, 119, 120, 121, 122, 123, 124, 125, 126, 127, 128, 129, 130, 131, 132, 133, 134] (by decide +kernel) (by decide +kernel)
set_option maxRecDepth 20000 in
theorem gX11_land_X11_readStatement : GoodIn wsX11_land (wsV RX11 171 RX11 yX11_readStatement wsX11_readStatement) := goodIn_app (goodIn_of _ (by decide +kernel)) ggX11_land_X11_readStatement
set_option maxRecDepth 20000 in
theorem ggX11_land_X11_carryAll : GoodIn wsX11_land wsX11_carryAll := goodIn_r _ [43, 44, 45, 46, 47, 48, 49, 50, 51, 52, 53, 54, 55, 56, 57, 58, 59, 13, 60, 96, 97, 98, 99, 100, 101, 102, 103, 104, 105, 106, 107, 108, 109, 110, 111, 112, 113, 114, 115, 116, 117, 118, 119, 120, 121, 122, 123, 124, 125, 126, 127, 128, 129, 130, 131, 132, 133, 134] (by decide +kernel) (by decide +kernel)
set_option maxRecDepth 20000 in
theorem gX11_land_X11_carryAll : GoodIn wsX11_land (wsV RX11 174 RX11 yX11_carryAll wsX11_carryAll) := goodIn_app (goodIn_of _ (by decide +kernel)) ggX11_land_X11_carryAll
set_option maxRecDepth 20000 in
theorem ggX11_land_X11_comes : GoodIn wsX11_land wsX11_comes := goodIn_r _ [64, 25, 24, 55, 56, 48, 49, 47, 50, 51, 65, 66, 67, 13, 68, 52, 69, 70, 71, 72, 73, 74, 75, 76, 77, 78, 79, 80, 81, 82, 83, 84, 53, 54, 85, 86, 87, 88, 89, 90, 91, 92, 93, 94, 95, 96, 97, 98, 99, 100, 101, 102, 103, 104, 105, 106, 107, 108, 109, 110, 111, 112, 113, 114, 115, 116, 117, 118, 119, 120, 121, 122, 123, 124, 125, 126, 127, 128, 129, 130, 131, 132, 133, 134] (by decide +kernel) (by decide +kernel)
set_option maxRecDepth 20000 in
theorem gX11_land_X11_comes : GoodIn wsX11_land (wsV RX11 178 RX11 yX11_comes wsX11_comes) := goodIn_app (goodIn_of _ (by decide +kernel)) ggX11_land_X11_comes
set_option maxRecDepth 20000 in
theorem ggX11_carryAll_X11_carry : GoodIn wsX11_carryAll wsX11_carry := goodIn_r _ [18, 2, 1, 3, 19, 20, 21, 22, 23, 24, 25, 26, 27, 28, 29, 30, 31, 32, 33, 34, 35, 36, 37, 38, 39, 40, 41, 42, 43, 44, 45, 46, 47, 48, 49, 50, 51, 52, 53, 54, 55, 56, 57] (by decide +kernel) (by decide +kernel)
set_option maxRecDepth 20000 in
theorem gX11_carryAll_X11_carry : GoodIn wsX11_carryAll (wsV RX11 190 RX11 yX11_carry wsX11_carry) := goodIn_app (goodIn_of _ (by decide +kernel)) ggX11_carryAll_X11_carry
set_option maxRecDepth 20000 in
theorem ggX11_image_X11_carryAll : GoodIn wsX11_image wsX11_carryAll := goodIn_r _ [9, 10, 11, 12, 13, 14, 15, 16, 17, 4, 18, 19, 20, 21, 22, 23, 24, 8, 25, 26, 27, 28, 29, 30, 31, 32, 33, 34, 35, 36, 37, 38, 39, 40, 41, 42, 43, 44, 45, 46, 47, 48, 49, 50, 51, 52, 53, 54, 55, 56, 57, 58, 59, 60, 61, 62, 63, 64] (by decide +kernel) (by decide +kernel)
set_option maxRecDepth 20000 in
theorem gX11_image_X11_carryAll : GoodIn wsX11_image (wsV RX11 174 RX11 yX11_carryAll wsX11_carryAll) := goodIn_app (goodIn_of _ (by decide +kernel)) ggX11_image_X11_carryAll
set_option maxRecDepth 20000 in
theorem ggX11_restore_X11_carryAll : GoodIn wsX11_restore wsX11_carryAll := goodIn_r _ [9, 10, 11, 12, 13, 14, 15, 16, 17, 4, 18, 19, 20, 21, 22, 23, 24, 8, 25, 26, 27, 28, 29, 30, 31, 32, 33, 34, 35, 36, 37, 38, 39, 40, 41, 42, 43, 44, 45, 46, 47, 48, 49, 50, 51, 52, 53, 54, 55, 56, 57, 58, 59, 60, 61, 62, 63, 64] (by decide +kernel) (by decide +kernel)
set_option maxRecDepth 20000 in
theorem gX11_restore_X11_carryAll : GoodIn wsX11_restore (wsV RX11 174 RX11 yX11_carryAll wsX11_carryAll) := goodIn_app (goodIn_of _ (by decide +kernel)) ggX11_restore_X11_carryAll
set_option maxRecDepth 20000 in
theorem ggX11_ground_X11_isCell : GoodIn wsX11_ground wsX11_isCell := goodIn_r _ [7, 8, 9, 10, 6, 11] (by decide +kernel) (by decide +kernel)
set_option maxRecDepth 20000 in
theorem gX11_ground_X11_isCell : GoodIn wsX11_ground (va_wsS RX11 196 yX11_isCell wsX11_isCell) := goodIn_app (goodIn_of _ (by decide +kernel)) ggX11_ground_X11_isCell
set_option maxRecDepth 20000 in
theorem ggX11_ground_X11_heightOf : GoodIn wsX11_ground wsX11_heightOf := goodIn_r _ [15, 2, 3, 26, 27, 28, 29, 30, 31, 32, 33, 34, 35, 36, 37, 38, 39, 40, 41, 42, 43, 44, 45, 46, 47, 48, 49, 50, 51, 52, 53, 54, 55, 56, 57, 58, 59, 60, 61, 62, 63, 64] (by decide +kernel) (by decide +kernel)
set_option maxRecDepth 20000 in
theorem gX11_ground_X11_heightOf : GoodIn wsX11_ground (wsV RX11 103 RX11 yX11_heightOf wsX11_heightOf) := goodIn_app (goodIn_of _ (by decide +kernel)) ggX11_ground_X11_heightOf
set_option maxRecDepth 20000 in
theorem ggX11_ground_X11_isOpen : GoodIn wsX11_ground wsX11_isOpen := goodIn_r _ [19, 20, 2, 21, 3, 26, 27, 28, 29, 30, 31, 32, 33, 34, 35, 36, 37, 38, 39, 40, 41, 42, 43, 44, 45, 46, 47, 48, 49, 50, 51, 52, 53, 54, 55, 56, 57, 58, 59, 60, 61, 62, 63, 64] (by decide +kernel) (by decide +kernel)
set_option maxRecDepth 20000 in
theorem gX11_ground_X11_isOpen : GoodIn wsX11_ground (wsV RX11 113 RX11 yX11_isOpen wsX11_isOpen) := goodIn_app (goodIn_of _ (by decide +kernel)) ggX11_ground_X11_isOpen
set_option maxRecDepth 20000 in
theorem ggX11_ground_X11_chanceOf : GoodIn wsX11_ground wsX11_chanceOf := goodIn_r _ [25, 2, 3, 26, 27, 28, 29, 30, 31, 32, 33, 34, 35, 36, 37, 38, 39, 40, 41, 42, 43, 44, 45, 46, 47, 48, 49, 50, 51, 52, 53, 54, 55, 56, 57, 58, 59, 60, 61, 62, 63, 64] (by decide +kernel) (by decide +kernel)
set_option maxRecDepth 20000 in
theorem gX11_ground_X11_chanceOf : GoodIn wsX11_ground (wsV RX11 200 RX11 yX11_chanceOf wsX11_chanceOf) := goodIn_app (goodIn_of _ (by decide +kernel)) ggX11_ground_X11_chanceOf
set_option maxRecDepth 20000 in
theorem ggX11_wrongKept_X11_in : GoodIn wsX11_wrongKept wsX11_in := goodIn_r _ [6] (by decide +kernel) (by decide +kernel)
set_option maxRecDepth 20000 in
theorem gX11_wrongKept_X11_in : GoodIn wsX11_wrongKept (va_wsS RX11 92 yX11_in wsX11_in) := goodIn_app (goodIn_of _ (by decide +kernel)) ggX11_wrongKept_X11_in
set_option maxRecDepth 20000 in
theorem ggX11_lays_X11_isCell : GoodIn wsX11_lays wsX11_isCell := goodIn_r _ [9, 10, 11, 12, 8, 13] (by decide +kernel) (by decide +kernel)
set_option maxRecDepth 20000 in
theorem gX11_lays_X11_isCell : GoodIn wsX11_lays (va_wsS RX11 196 yX11_isCell wsX11_isCell) := goodIn_app (goodIn_of _ (by decide +kernel)) ggX11_lays_X11_isCell
set_option maxRecDepth 20000 in
theorem ggX11_lays_X11_wrongKept : GoodIn wsX11_lays wsX11_wrongKept := goodIn_r _ [17, 18, 19, 11, 12, 8, 13, 20, 21, 22, 23, 24, 25, 26, 27, 28, 29, 30, 31, 32, 33, 34, 35, 36, 37, 38, 39, 40, 41, 42, 43, 44, 45, 46, 47, 48, 49, 50, 51, 52, 53, 54, 55, 56, 57, 58] (by decide +kernel) (by decide +kernel)
set_option maxRecDepth 20000 in
theorem gX11_lays_X11_wrongKept : GoodIn wsX11_lays (wsV RX11 205 RX11 yX11_wrongKept wsX11_wrongKept) := goodIn_app (goodIn_of _ (by decide +kernel)) ggX11_lays_X11_wrongKept
set_option maxRecDepth 20000 in
theorem ggX11_stands_X11_in : GoodIn wsX11_stands wsX11_in := goodIn_r _ [7] (by decide +kernel) (by decide +kernel)
set_option maxRecDepth 20000 in
theorem gX11_stands_X11_in : GoodIn wsX11_stands (va_wsS RX11 92 yX11_in wsX11_in) := goodIn_app (goodIn_of _ (by decide +kernel)) ggX11_stands_X11_in
set_option maxRecDepth 20000 in
theorem ggX11_stands_X11_isCell : GoodIn wsX11_stands wsX11_isCell := goodIn_r _ [10, 11, 4, 5, 6, 7] (by decide +kernel) (by decide +kernel)
set_option maxRecDepth 20000 in
theorem gX11_stands_X11_isCell : GoodIn wsX11_stands (va_wsS RX11 196 yX11_isCell wsX11_isCell) := goodIn_app (goodIn_of _ (by decide +kernel)) ggX11_stands_X11_isCell
set_option maxRecDepth 20000 in
theorem ggX11_stands_X11_isOpen : GoodIn wsX11_stands wsX11_isOpen := goodIn_r _ [15, 16, 17, 18, 19, 20, 21, 22, 23, 24, 25, 26, 27, 28, 29, 30, 31, 32, 33, 34, 35, 36, 37, 38, 39, 40, 41, 42, 43, 44, 45, 46, 47, 48, 49, 50, 51, 52, 53, 54, 55, 56, 57, 58] (by decide +kernel) (by decide +kernel)
set_option maxRecDepth 20000 in
theorem gX11_stands_X11_isOpen : GoodIn wsX11_stands (wsV RX11 113 RX11 yX11_isOpen wsX11_isOpen) := goodIn_app (goodIn_of _ (by decide +kernel)) ggX11_stands_X11_isOpen
set_option maxRecDepth 20000 in
theorem ggX11_set_X11_in : GoodIn wsX11_set wsX11_in := goodIn_r _ [10] (by decide +kernel) (by decide +kernel)
set_option maxRecDepth 20000 in
theorem gX11_set_X11_in : GoodIn wsX11_set (va_wsS RX11 92 yX11_in wsX11_in) := goodIn_app (goodIn_of _ (by decide +kernel)) ggX11_set_X11_in
set_option maxRecDepth 20000 in
theorem ggX11_go_X11_in : GoodIn wsX11_go wsX11_in := goodIn_r _ [8] (by decide +kernel) (by decide +kernel)
set_option maxRecDepth 20000 in
theorem gX11_go_X11_in : GoodIn wsX11_go (va_wsS RX11 92 yX11_in wsX11_in) := goodIn_app (goodIn_of _ (by decide +kernel)) ggX11_go_X11_in
set_option maxRecDepth 20000 in
theorem ggX11_go_X11_canGo : GoodIn wsX11_go wsX11_canGo := goodIn_r _ [12, 3, 4, 13, 14, 15, 16, 7, 17, 18, 19, 20, 21, 22, 23, 24, 25, 26, 27, 28, 48, 49, 50, 51, 52, 53, 54, 55, 56, 57, 58, 59, 60, 61, 62, 63, 64, 65, 66, 67, 68, 69, 70, 71, 72, 73, 74, 75, 76, 77, 78, 79, 80, 81, 82, 83, 84, 85, 86] (by decide +kernel) (by decide +kernel)
set_option maxRecDepth 20000 in
theorem gX11_go_X11_canGo : GoodIn wsX11_go (wsV RX11 160 RX11 yX11_canGo wsX11_canGo) := goodIn_app (goodIn_of _ (by decide +kernel)) ggX11_go_X11_canGo
set_option maxRecDepth 20000 in
theorem ggX11_go_X11_goBoth : GoodIn wsX11_go wsX11_goBoth := goodIn_r _ [32, 3, 4, 33, 34, 35, 36, 13, 14, 15, 16, 7, 17, 18, 19, 20, 21, 22, 23, 24, 25, 26, 27, 28, 37, 38, 39, 40, 41, 42, 43, 44, 45, 46, 47, 48, 49, 50, 51, 52, 53, 54, 55, 56, 57, 58, 59, 60, 61, 62, 63, 64, 65, 66, 67, 68, 69, 70, 71, 72, 73, 74, 75, 76, 77, 78, 79, 80, 81, 82, 83, 84, 85, 86] (by decide +kernel) (by decide +kernel)
set_option maxRecDepth 20000 in
theorem gX11_go_X11_goBoth : GoodIn wsX11_go (wsV RX11 164 RX11 yX11_goBoth wsX11_goBoth) := goodIn_app (goodIn_of _ (by decide +kernel)) ggX11_go_X11_goBoth
set_option maxRecDepth 20000 in
theorem ggX11_go_X11_farOf : GoodIn wsX11_go wsX11_farOf := goodIn_r _ [40, 41, 42, 7, 43, 44, 45, 46, 47, 26, 28, 48, 49, 50, 51, 52, 53, 54, 55, 56, 57, 58, 59, 60, 61, 62, 63, 64, 65, 66, 67, 68, 69, 70, 71, 72, 73, 74, 75, 76, 77, 78, 79, 80, 81, 82, 83, 84, 85, 86] (by decide +kernel) (by decide +kernel)
set_option maxRecDepth 20000 in
theorem gX11_go_X11_farOf : GoodIn wsX11_go (wsV RX11 106 RX11 yX11_farOf wsX11_farOf) := goodIn_app (goodIn_of _ (by decide +kernel)) ggX11_go_X11_farOf
set_option maxRecDepth 20000 in
theorem ggX11_far_X11_isCell : GoodIn wsX11_far wsX11_isCell := goodIn_r _ [5, 6, 7, 8, 4, 9] (by decide +kernel) (by decide +kernel)
set_option maxRecDepth 20000 in
theorem gX11_far_X11_isCell : GoodIn wsX11_far (va_wsS RX11 196 yX11_isCell wsX11_isCell) := goodIn_app (goodIn_of _ (by decide +kernel)) ggX11_far_X11_isCell
set_option maxRecDepth 20000 in
theorem ggX11_far_X11_farOf : GoodIn wsX11_far wsX11_farOf := goodIn_r _ [13, 14, 15, 4, 16, 17, 18, 19, 20, 21, 22, 23, 24, 25, 26, 27, 28, 29, 30, 31, 32, 33, 34, 35, 36, 37, 38, 39, 40, 41, 42, 43, 44, 45, 46, 47, 48, 49, 50, 51, 52, 53, 54, 55, 56, 57, 58, 59, 60, 61] (by decide +kernel) (by decide +kernel)
set_option maxRecDepth 20000 in
theorem gX11_far_X11_farOf : GoodIn wsX11_far (wsV RX11 106 RX11 yX11_farOf wsX11_farOf) := goodIn_app (goodIn_of _ (by decide +kernel)) ggX11_far_X11_farOf
set_option maxRecDepth 20000 in
theorem ggX11_layStepsFrom_X11_openCells : GoodIn wsX11_layStepsFrom wsX11_openCells := goodIn_r _ [6, 7, 8, 9, 5, 10, 11, 12, 13, 14, 29, 30, 31, 32, 33, 34, 35, 36, 37, 38, 39, 40, 41, 42, 43, 44, 45, 46, 47, 48, 49, 50, 51, 52, 53, 54, 55, 56, 57, 58, 59, 60, 61, 62, 63, 64, 65, 66, 67] (by decide +kernel) (by decide +kernel)
set_option maxRecDepth 20000 in
theorem gX11_layStepsFrom_X11_openCells : GoodIn wsX11_layStepsFrom (wsV RX11 214 RX11 yX11_openCells wsX11_openCells) := goodIn_app (goodIn_of _ (by decide +kernel)) ggX11_layStepsFrom_X11_openCells
set_option maxRecDepth 20000 in
theorem ggX11_layStepsFrom_X11_isOn : GoodIn wsX11_layStepsFrom wsX11_isOn := goodIn_r _ [17] (by decide +kernel) (by decide +kernel)
set_option maxRecDepth 20000 in
theorem gX11_layStepsFrom_X11_isOn : GoodIn wsX11_layStepsFrom (va_wsS RX11 117 yX11_isOn wsX11_isOn) := goodIn_app (goodIn_of _ (by decide +kernel)) ggX11_layStepsFrom_X11_isOn
set_option maxRecDepth 20000 in
theorem ggX11_layStepsFrom_X11_goOn : GoodIn wsX11_layStepsFrom wsX11_goOn := goodIn_r _ [21, 15, 16, 5, 17, 22, 23, 24, 25, 26, 27, 28, 7, 8, 9, 10, 11, 12, 13, 14, 29, 30, 31, 32, 33, 34, 35, 36, 37, 38, 39, 40, 41, 42, 43, 44, 45, 46, 47, 48, 49, 50, 51, 52, 53, 54, 55, 56, 57, 58, 59, 60, 61, 62, 63, 64, 65, 66, 67] (by decide +kernel) (by decide +kernel)
set_option maxRecDepth 20000 in
theorem gX11_layStepsFrom_X11_goOn : GoodIn wsX11_layStepsFrom (wsV RX11 218 RX11 yX11_goOn wsX11_goOn) := goodIn_app (goodIn_of _ (by decide +kernel)) ggX11_layStepsFrom_X11_goOn
set_option maxRecDepth 20000 in
theorem ggX11_steps_X11_isCell : GoodIn wsX11_steps wsX11_isCell := goodIn_r _ [6, 7, 8, 9, 5, 10] (by decide +kernel) (by decide +kernel)
set_option maxRecDepth 20000 in
theorem gX11_steps_X11_isCell : GoodIn wsX11_steps (va_wsS RX11 196 yX11_isCell wsX11_isCell) := goodIn_app (goodIn_of _ (by decide +kernel)) ggX11_steps_X11_isCell
set_option maxRecDepth 20000 in
theorem ggX11_steps_X11_layStepsFrom : GoodIn wsX11_steps wsX11_layStepsFrom := goodIn_r _ [14, 2, 15, 16, 17, 5, 18, 19, 20, 21, 22, 23, 24, 25, 26, 27, 28, 29, 30, 31, 32, 33, 34, 35, 36, 37, 38, 39, 40, 41, 42, 43, 44, 45, 46, 47, 48, 49, 50, 51, 52, 53, 54, 55, 56, 57, 58, 59, 60, 61, 62, 63, 64, 65, 66, 67, 68, 69, 70, 71, 72, 73, 74, 75, 76, 77, 78, 79] (by decide +kernel) (by decide +kernel)
set_option maxRecDepth 20000 in
theorem gX11_steps_X11_layStepsFrom : GoodIn wsX11_steps (wsV RX11 222 RX11 yX11_layStepsFrom wsX11_layStepsFrom) := goodIn_app (goodIn_of _ (by decide +kernel)) ggX11_steps_X11_layStepsFrom
set_option maxRecDepth 20000 in
theorem ggX11_isPair_X11_isOpen : GoodIn wsX11_isPair wsX11_isOpen := goodIn_r _ [5, 6, 7, 8, 9, 27, 28, 29, 30, 31, 32, 33, 34, 35, 36, 37, 38, 39, 40, 41, 42, 43, 44, 45, 46, 47, 48, 49, 50, 51, 52, 53, 54, 55, 56, 57, 58, 59, 60, 61, 62, 63, 64, 65] (by decide +kernel) (by decide +kernel)
set_option maxRecDepth 20000 in
theorem gX11_isPair_X11_isOpen : GoodIn wsX11_isPair (wsV RX11 113 RX11 yX11_isOpen wsX11_isOpen) := goodIn_app (goodIn_of _ (by decide +kernel)) ggX11_isPair_X11_isOpen
set_option maxRecDepth 20000 in
theorem ggX11_isPair_X11_isOff : GoodIn wsX11_isPair wsX11_isOff := goodIn_r _ [13, 14, 15, 16, 17, 18, 4, 19, 20, 21, 22, 23, 24, 25, 26, 7, 9, 27, 28, 29, 30, 31, 32, 33, 34, 35, 36, 37, 38, 39, 40, 41, 42, 43, 44, 45, 46, 47, 48, 49, 50, 51, 52, 53, 54, 55, 56, 57, 58, 59, 60, 61, 62, 63, 64, 65] (by decide +kernel) (by decide +kernel)
set_option maxRecDepth 20000 in
theorem gX11_isPair_X11_isOff : GoodIn wsX11_isPair (wsV RX11 226 RX11 yX11_isOff wsX11_isOff) := goodIn_app (goodIn_of _ (by decide +kernel)) ggX11_isPair_X11_isOff
set_option maxRecDepth 20000 in
theorem ggX11_pairMany_X11_isPair : GoodIn wsX11_pairMany wsX11_isPair := goodIn_r _ [5, 6, 7, 8, 4, 9, 10, 11, 12, 13, 14, 15, 16, 17, 18, 19, 20, 21, 22, 23, 24, 25, 26, 27, 28, 29, 30, 31, 32, 33, 34, 35, 36, 37, 38, 39, 40, 41, 42, 43, 44, 45, 46, 47, 48, 49, 50, 51, 52, 53, 54, 55, 56, 57, 58, 59, 60, 61, 62, 63, 64, 65, 66, 67, 68, 69] (by decide +kernel) (by decide +kernel)
set_option maxRecDepth 20000 in
theorem gX11_pairMany_X11_isPair : GoodIn wsX11_pairMany (wsV RX11 229 RX11 yX11_isPair wsX11_isPair) := goodIn_app (goodIn_of _ (by decide +kernel)) ggX11_pairMany_X11_isPair
set_option maxRecDepth 20000 in
theorem ggX11_pairs_X11_pairMany : GoodIn wsX11_pairs wsX11_pairMany := goodIn_r _ [6, 7, 8, 9, 5, 10, 11, 12, 13, 14, 15, 16, 17, 18, 19, 20, 21, 22, 23, 24, 25, 26, 27, 28, 29, 30, 31, 32, 33, 34, 35, 36, 37, 38, 39, 40, 41, 42, 43, 44, 45, 46, 47, 48, 49, 50, 51, 52, 53, 54, 55, 56, 57, 58, 59, 60, 61, 62, 63, 64, 65, 66, 67, 68, 69, 70, 71, 72, 73, 74] (by decide +kernel) (by decide +kernel)
set_option maxRecDepth 20000 in
theorem gX11_pairs_X11_pairMany : GoodIn wsX11_pairs (wsV RX11 232 RX11 yX11_pairMany wsX11_pairMany) := goodIn_app (goodIn_of _ (by decide +kernel)) ggX11_pairs_X11_pairMany
set_option maxRecDepth 20000 in
theorem ggX11_pairs_X11_isPair : GoodIn wsX11_pairs wsX11_isPair := goodIn_r _ [10, 11, 12, 13, 5, 14, 15, 16, 17, 18, 19, 20, 21, 22, 23, 24, 25, 26, 27, 28, 29, 30, 31, 32, 33, 34, 35, 36, 37, 38, 39, 40, 41, 42, 43, 44, 45, 46, 47, 48, 49, 50, 51, 52, 53, 54, 55, 56, 57, 58, 59, 60, 61, 62, 63, 64, 65, 66, 67, 68, 69, 70, 71, 72, 73, 74] (by decide +kernel) (by decide +kernel)
set_option maxRecDepth 20000 in
theorem gX11_pairs_X11_isPair : GoodIn wsX11_pairs (wsV RX11 229 RX11 yX11_isPair wsX11_isPair) := goodIn_app (goodIn_of _ (by decide +kernel)) ggX11_pairs_X11_isPair
set_option maxRecDepth 20000 in
theorem ggX11_partWith_X11_layStepsFrom : GoodIn wsX11_partWith wsX11_layStepsFrom := goodIn_r _ [6, 1, 7, 8, 9, 5, 10, 11, 12, 13, 14, 15, 16, 17, 18, 19, 20, 21, 22, 23, 24, 25, 26, 27, 28, 29, 30, 31, 32, 33, 34, 35, 36, 37, 38, 39, 40, 41, 42, 43, 44, 45, 46, 47, 48, 49, 50, 51, 52, 53, 54, 55, 56, 57, 58, 59, 60, 61, 62, 63, 64, 65, 66, 67, 68, 69, 70, 71] (by decide +kernel) (by decide +kernel)
set_option maxRecDepth 20000 in
theorem gX11_partWith_X11_layStepsFrom : GoodIn wsX11_partWith (wsV RX11 222 RX11 yX11_layStepsFrom wsX11_layStepsFrom) := goodIn_app (goodIn_of _ (by decide +kernel)) ggX11_partWith_X11_layStepsFrom
set_option maxRecDepth 20000 in
theorem ggX11_islands_X11_isOpen : GoodIn wsX11_islands wsX11_isOpen := goodIn_r _ [6, 7, 8, 9, 10, 38, 39, 40, 41, 42, 43, 44, 45, 46, 47, 48, 49, 50, 51, 52, 53, 54, 55, 56, 57, 58, 59, 60, 61, 62, 63, 64, 65, 66, 67, 68, 69, 70, 71, 72, 73, 74, 75, 76] (by decide +kernel) (by decide +kernel)
set_option maxRecDepth 20000 in
theorem gX11_islands_X11_isOpen : GoodIn wsX11_islands (wsV RX11 113 RX11 yX11_isOpen wsX11_isOpen) := goodIn_app (goodIn_of _ (by decide +kernel)) ggX11_islands_X11_isOpen
set_option maxRecDepth 20000 in
theorem ggX11_islands_X11_isOn : GoodIn wsX11_islands wsX11_isOn := goodIn_r _ [13] (by decide +kernel) (by decide +kernel)
set_option maxRecDepth 20000 in
theorem gX11_islands_X11_isOn : GoodIn wsX11_islands (va_wsS RX11 117 yX11_isOn wsX11_isOn) := goodIn_app (goodIn_of _ (by decide +kernel)) ggX11_islands_X11_isOn
set_option maxRecDepth 20000 in
theorem ggX11_islands_X11_partWith : GoodIn wsX11_islands wsX11_partWith := goodIn_r _ [17, 18, 19, 20, 21, 5, 22, 23, 24, 25, 26, 2, 3, 4, 6, 7, 8, 9, 10, 11, 12, 13, 27, 28, 29, 30, 31, 32, 33, 34, 35, 36, 37, 38, 39, 40, 41, 42, 43, 44, 45, 46, 47, 48, 49, 50, 51, 52, 53, 54, 55, 56, 57, 58, 59, 60, 61, 62, 63, 64, 65, 66, 67, 68, 69, 70, 71, 72, 73, 74, 75, 76] (by decide +kernel) (by decide +kernel)
set_option maxRecDepth 20000 in
theorem gX11_islands_X11_partWith : GoodIn wsX11_islands (wsV RX11 235 RX11 yX11_partWith wsX11_partWith) := goodIn_app (goodIn_of _ (by decide +kernel)) ggX11_islands_X11_partWith
set_option maxRecDepth 20000 in
theorem ggX11_island_X11_isCell : GoodIn wsX11_island wsX11_isCell := goodIn_r _ [5, 6, 7, 8, 4, 9] (by decide +kernel) (by decide +kernel)
set_option maxRecDepth 20000 in
theorem gX11_island_X11_isCell : GoodIn wsX11_island (va_wsS RX11 196 yX11_isCell wsX11_isCell) := goodIn_app (goodIn_of _ (by decide +kernel)) ggX11_island_X11_isCell
set_option maxRecDepth 20000 in
theorem ggX11_island_X11_isOpen : GoodIn wsX11_island wsX11_isOpen := goodIn_r _ [13, 14, 15, 16, 17, 48, 49, 50, 51, 52, 53, 54, 55, 56, 57, 58, 59, 60, 61, 62, 63, 64, 65, 66, 67, 68, 69, 70, 71, 72, 73, 74, 75, 76, 77, 78, 79, 80, 81, 82, 83, 84, 85, 86] (by decide +kernel) (by decide +kernel)
set_option maxRecDepth 20000 in
theorem gX11_island_X11_isOpen : GoodIn wsX11_island (wsV RX11 113 RX11 yX11_isOpen wsX11_isOpen) := goodIn_app (goodIn_of _ (by decide +kernel)) ggX11_island_X11_isOpen
set_option maxRecDepth 20000 in
theorem ggX11_island_X11_partWith : GoodIn wsX11_island wsX11_partWith := goodIn_r _ [21, 22, 23, 24, 25, 4, 26, 27, 28, 29, 30, 10, 11, 12, 13, 14, 15, 16, 17, 31, 32, 33, 34, 35, 36, 37, 38, 39, 40, 41, 42, 43, 44, 48, 49, 50, 51, 52, 53, 54, 55, 56, 57, 58, 59, 60, 61, 62, 63, 64, 65, 66, 67, 68, 69, 70, 71, 72, 73, 74, 75, 76, 77, 78, 79, 80, 81, 82, 83, 84, 85, 86] (by decide +kernel) (by decide +kernel)
set_option maxRecDepth 20000 in
theorem gX11_island_X11_partWith : GoodIn wsX11_island (wsV RX11 235 RX11 yX11_partWith wsX11_partWith) := goodIn_app (goodIn_of _ (by decide +kernel)) ggX11_island_X11_partWith
set_option maxRecDepth 20000 in
theorem ggX11_island_X11_onesOf : GoodIn wsX11_island wsX11_onesOf := goodIn_r _ [47] (by decide +kernel) (by decide +kernel)
set_option maxRecDepth 20000 in
theorem gX11_island_X11_onesOf : GoodIn wsX11_island (va_wsS RX11 239 yX11_onesOf wsX11_onesOf) := goodIn_app (goodIn_of _ (by decide +kernel)) ggX11_island_X11_onesOf
set_option maxRecDepth 20000 in
theorem ggX11_middle_X11_in : GoodIn wsX11_middle wsX11_in := goodIn_r _ [6] (by decide +kernel) (by decide +kernel)
set_option maxRecDepth 20000 in
theorem gX11_middle_X11_in : GoodIn wsX11_middle (va_wsS RX11 92 yX11_in wsX11_in) := goodIn_app (goodIn_of _ (by decide +kernel)) ggX11_middle_X11_in
set_option maxRecDepth 20000 in
theorem ggX11_middle_X11_partWith : GoodIn wsX11_middle wsX11_partWith := goodIn_r _ [10, 2, 11, 12, 13, 5, 14, 15, 16, 17, 18, 19, 20, 21, 22, 23, 24, 25, 26, 27, 28, 29, 30, 31, 32, 33, 34, 35, 36, 37, 38, 39, 40, 44, 45, 46, 47, 48, 49, 50, 51, 52, 53, 54, 55, 56, 57, 58, 59, 60, 61, 62, 63, 64, 65, 66, 67, 68, 69, 70, 71, 72, 73, 74, 75, 76, 77, 78, 79, 80, 81, 82] (by decide +kernel) (by decide +kernel)
set_option maxRecDepth 20000 in
theorem gX11_middle_X11_partWith : GoodIn wsX11_middle (wsV RX11 235 RX11 yX11_partWith wsX11_partWith) := goodIn_app (goodIn_of _ (by decide +kernel)) ggX11_middle_X11_partWith
set_option maxRecDepth 20000 in
theorem ggX11_middle_X11_onesOf : GoodIn wsX11_middle wsX11_onesOf := goodIn_r _ [43] (by decide +kernel) (by decide +kernel)
set_option maxRecDepth 20000 in
theorem gX11_middle_X11_onesOf : GoodIn wsX11_middle (va_wsS RX11 239 yX11_onesOf wsX11_onesOf) := goodIn_app (goodIn_of _ (by decide +kernel)) ggX11_middle_X11_onesOf
set_option maxRecDepth 20000 in
theorem ggX11_middle_X11_isOn : GoodIn wsX11_middle wsX11_isOn := goodIn_r _ [29] (by decide +kernel) (by decide +kernel)
set_option maxRecDepth 20000 in
theorem gX11_middle_X11_isOn : GoodIn wsX11_middle (va_wsS RX11 117 yX11_isOn wsX11_isOn) := goodIn_app (goodIn_of _ (by decide +kernel)) ggX11_middle_X11_isOn
set_option maxRecDepth 20000 in
theorem ggX11_middle_X11_layStepsFrom : GoodIn wsX11_middle wsX11_layStepsFrom := goodIn_r _ [14, 2, 15, 16, 17, 5, 18, 19, 20, 21, 22, 23, 24, 25, 26, 27, 28, 29, 30, 31, 32, 33, 34, 35, 36, 37, 38, 39, 40, 44, 45, 46, 47, 48, 49, 50, 51, 52, 53, 54, 55, 56, 57, 58, 59, 60, 61, 62, 63, 64, 65, 66, 67, 68, 69, 70, 71, 72, 73, 74, 75, 76, 77, 78, 79, 80, 81, 82] (by decide +kernel) (by decide +kernel)
set_option maxRecDepth 20000 in
theorem gX11_middle_X11_layStepsFrom : GoodIn wsX11_middle (wsV RX11 222 RX11 yX11_layStepsFrom wsX11_layStepsFrom) := goodIn_app (goodIn_of _ (by decide +kernel)) ggX11_middle_X11_layStepsFrom
set_option maxRecDepth 20000 in
theorem ggX11_layDaysFrom_X11_isPair : GoodIn wsX11_layDaysFrom wsX11_isPair := goodIn_r _ [7, 8, 9, 10, 6, 11, 12, 13, 14, 15, 16, 17, 18, 19, 20, 21, 22, 23, 24, 25, 26, 27, 28, 29, 30, 31, 32, 40, 41, 42, 43, 44, 45, 46, 47, 48, 49, 50, 51, 52, 53, 54, 55, 56, 57, 58, 59, 60, 61, 62, 63, 64, 65, 66, 67, 68, 69, 70, 71, 72, 73, 74, 75, 76, 77, 78] (by decide +kernel) (by decide +kernel)
set_option maxRecDepth 20000 in
theorem gX11_layDaysFrom_X11_isPair : GoodIn wsX11_layDaysFrom (wsV RX11 229 RX11 yX11_isPair wsX11_isPair) := goodIn_app (goodIn_of _ (by decide +kernel)) ggX11_layDaysFrom_X11_isPair
set_option maxRecDepth 20000 in
theorem ggX11_layDaysFrom_X11_goneTo : GoodIn wsX11_layDaysFrom wsX11_goneTo := goodIn_r _ [36, 37, 38, 6, 39, 8, 9, 10, 11, 12, 13, 14, 15, 40, 41, 42, 43, 44, 45, 46, 47, 48, 49, 50, 51, 52, 53, 54, 55, 56, 57, 58, 59, 60, 61, 62, 63, 64, 65, 66, 67, 68, 69, 70, 71, 72, 73, 74, 75, 76, 77, 78] (by decide +kernel) (by decide +kernel)
set_option maxRecDepth 20000 in
theorem gX11_layDaysFrom_X11_goneTo : GoodIn wsX11_layDaysFrom (wsV RX11 121 RX11 yX11_goneTo wsX11_goneTo) := goodIn_app (goodIn_of _ (by decide +kernel)) ggX11_layDaysFrom_X11_goneTo
set_option maxRecDepth 20000 in
theorem ggX11_wrongTwo_X11_isCell : GoodIn wsX11_wrongTwo wsX11_isCell := goodIn_r _ [4, 5, 6, 7, 3, 8] (by decide +kernel) (by decide +kernel)
set_option maxRecDepth 20000 in
theorem gX11_wrongTwo_X11_isCell : GoodIn wsX11_wrongTwo (va_wsS RX11 196 yX11_isCell wsX11_isCell) := goodIn_app (goodIn_of _ (by decide +kernel)) ggX11_wrongTwo_X11_isCell
set_option maxRecDepth 20000 in
theorem ggX11_wrongTwo_X11_areBoth : GoodIn wsX11_wrongTwo wsX11_areBoth := goodIn_r _ [12, 13, 14, 15, 16, 17, 18, 19, 20, 21, 22, 23, 24, 25, 26, 27, 28, 29, 30, 31, 32, 33, 34, 35, 36, 37, 38, 39, 40, 41, 42, 43, 44, 45, 46, 47, 48, 49, 50, 51, 52, 53] (by decide +kernel) (by decide +kernel)
set_option maxRecDepth 20000 in
theorem gX11_wrongTwo_X11_areBoth : GoodIn wsX11_wrongTwo (wsV RX11 243 RX11 yX11_areBoth wsX11_areBoth) := goodIn_app (goodIn_of _ (by decide +kernel)) ggX11_wrongTwo_X11_areBoth
set_option maxRecDepth 20000 in
theorem ggX11_seeDays_X11_layDaysFrom : GoodIn wsX11_seeDays wsX11_layDaysFrom := goodIn_r _ [8, 3, 9, 10, 11, 12, 7, 13, 14, 15, 16, 17, 18, 19, 20, 21, 22, 23, 24, 25, 26, 27, 28, 29, 30, 31, 32, 33, 34, 35, 36, 37, 38, 39, 40, 41, 42, 43, 44, 45, 46, 47, 48, 49, 50, 51, 52, 53, 54, 55, 56, 57, 58, 59, 60, 61, 62, 63, 64, 65, 66, 67, 68, 69, 70, 71, 72, 73, 74, 75, 76, 77, 78, 79, 80, 81, 82, 83, 84] (by decide +kernel) (by decide +kernel)
set_option maxRecDepth 20000 in
theorem gX11_seeDays_X11_layDaysFrom : GoodIn wsX11_seeDays (wsV RX11 247 RX11 yX11_layDaysFrom wsX11_layDaysFrom) := goodIn_app (goodIn_of _ (by decide +kernel)) ggX11_seeDays_X11_layDaysFrom
set_option maxRecDepth 20000 in
theorem ggX11_seeDays_X11_isPair : GoodIn wsX11_seeDays wsX11_isPair := goodIn_r _ [13, 14, 15, 16, 7, 17, 18, 19, 20, 21, 22, 23, 24, 25, 26, 27, 28, 29, 30, 31, 32, 33, 34, 35, 36, 37, 38, 46, 47, 48, 49, 50, 51, 52, 53, 54, 55, 56, 57, 58, 59, 60, 61, 62, 63, 64, 65, 66, 67, 68, 69, 70, 71, 72, 73, 74, 75, 76, 77, 78, 79, 80, 81, 82, 83, 84] (by decide +kernel) (by decide +kernel)
set_option maxRecDepth 20000 in
theorem gX11_seeDays_X11_isPair : GoodIn wsX11_seeDays (wsV RX11 229 RX11 yX11_isPair wsX11_isPair) := goodIn_app (goodIn_of _ (by decide +kernel)) ggX11_seeDays_X11_isPair
set_option maxRecDepth 20000 in
theorem ggX11_see_X11_wrongTwo : GoodIn wsX11_see wsX11_wrongTwo := goodIn_r _ [6, 7, 8, 5, 9, 10, 11, 12, 13, 14, 15, 16, 17, 18, 19, 66, 67, 68, 69, 70, 71, 72, 73, 74, 75, 76, 77, 78, 79, 80, 81, 82, 83, 84, 85, 86, 87, 88, 89, 90, 91, 92, 93, 94, 95, 96, 97, 98, 99, 100, 101, 102, 103, 104] (by decide +kernel) (by decide +kernel)
set_option maxRecDepth 20000 in
theorem gX11_see_X11_wrongTwo : GoodIn wsX11_see (wsV RX11 250 RX11 yX11_wrongTwo wsX11_wrongTwo) := goodIn_app (goodIn_of _ (by decide +kernel)) ggX11_see_X11_wrongTwo
set_option maxRecDepth 20000 in
theorem ggX11_see_X11_seeDays : GoodIn wsX11_see wsX11_seeDays := goodIn_r _ [23, 18, 19, 24, 25, 26, 27, 5, 28, 29, 30, 31, 32, 33, 34, 35, 36, 37, 38, 39, 40, 41, 42, 43, 44, 45, 46, 47, 48, 49, 50, 51, 52, 53, 54, 55, 56, 57, 58, 59, 60, 61, 62, 63, 64, 65, 66, 67, 68, 69, 70, 71, 72, 73, 74, 75, 76, 77, 78, 79, 80, 81, 82, 83, 84, 85, 86, 87, 88, 89, 90, 91, 92, 93, 94, 95, 96, 97, 98, 99, 100, 101, 102, 103, 104] (by decide +kernel) (by decide +kernel)
set_option maxRecDepth 20000 in
theorem gX11_see_X11_seeDays : GoodIn wsX11_see (wsV RX11 253 RX11 yX11_seeDays wsX11_seeDays) := goodIn_app (goodIn_of _ (by decide +kernel)) ggX11_see_X11_seeDays
set_option maxRecDepth 20000 in
theorem ggX11_way_X11_wrongTwo : GoodIn wsX11_way wsX11_wrongTwo := goodIn_r _ [9, 10, 11, 8, 12, 13, 14, 15, 16, 17, 18, 19, 20, 2, 3, 66, 67, 68, 69, 70, 71, 72, 73, 74, 75, 76, 77, 78, 79, 80, 81, 82, 83, 84, 85, 86, 87, 88, 89, 90, 91, 92, 93, 94, 95, 96, 97, 98, 99, 100, 101, 102, 103, 104] (by decide +kernel) (by decide +kernel)
set_option maxRecDepth 20000 in
theorem gX11_way_X11_wrongTwo : GoodIn wsX11_way (wsV RX11 250 RX11 yX11_wrongTwo wsX11_wrongTwo) := goodIn_app (goodIn_of _ (by decide +kernel)) ggX11_way_X11_wrongTwo
set_option maxRecDepth 20000 in
theorem ggX11_way_X11_seeDays : GoodIn wsX11_way wsX11_seeDays := goodIn_r _ [24, 2, 3, 4, 25, 26, 27, 8, 28, 29, 30, 31, 32, 33, 34, 35, 36, 37, 38, 39, 40, 41, 42, 43, 44, 45, 46, 47, 48, 49, 50, 51, 52, 53, 54, 55, 56, 57, 58, 59, 60, 61, 62, 63, 64, 65, 66, 67, 68, 69, 70, 71, 72, 73, 74, 75, 76, 77, 78, 79, 80, 81, 82, 83, 84, 85, 86, 87, 88, 89, 90, 91, 92, 93, 94, 95, 96, 97, 98, 99, 100, 101, 102, 103, 104] (by decide +kernel) (by decide +kernel)
set_option maxRecDepth 20000 in
theorem gX11_way_X11_seeDays : GoodIn wsX11_way (wsV RX11 253 RX11 yX11_seeDays wsX11_seeDays) := goodIn_app (goodIn_of _ (by decide +kernel)) ggX11_way_X11_seeDays
set_option maxRecDepth 20000 in
theorem ggX11_way_X11_goneTo : GoodIn wsX11_way wsX11_goneTo := goodIn_r _ [62, 63, 64, 8, 65, 34, 35, 36, 37, 38, 39, 40, 41, 66, 67, 68, 69, 70, 71, 72, 73, 74, 75, 76, 77, 78, 79, 80, 81, 82, 83, 84, 85, 86, 87, 88, 89, 90, 91, 92, 93, 94, 95, 96, 97, 98, 99, 100, 101, 102, 103, 104] (by decide +kernel) (by decide +kernel)
set_option maxRecDepth 20000 in
theorem gX11_way_X11_goneTo : GoodIn wsX11_way (wsV RX11 121 RX11 yX11_goneTo wsX11_goneTo) := goodIn_app (goodIn_of _ (by decide +kernel)) ggX11_way_X11_goneTo
set_option maxRecDepth 20000 in
theorem ggX11_hinders_X11_wrongTwo : GoodIn wsX11_hinders wsX11_wrongTwo := goodIn_r _ [7, 8, 9, 6, 10, 11, 12, 13, 14, 15, 16, 17, 18, 19, 20, 66, 67, 68, 69, 70, 71, 72, 73, 74, 75, 76, 77, 78, 79, 80, 81, 82, 83, 84, 85, 86, 87, 88, 89, 90, 91, 92, 93, 94, 95, 96, 97, 98, 99, 100, 101, 102, 103, 104] (by decide +kernel) (by decide +kernel)
set_option maxRecDepth 20000 in
theorem gX11_hinders_X11_wrongTwo : GoodIn wsX11_hinders (wsV RX11 250 RX11 yX11_wrongTwo wsX11_wrongTwo) := goodIn_app (goodIn_of _ (by decide +kernel)) ggX11_hinders_X11_wrongTwo
set_option maxRecDepth 20000 in
theorem ggX11_hinders_X11_seeDays : GoodIn wsX11_hinders wsX11_seeDays := goodIn_r _ [24, 19, 20, 25, 26, 27, 28, 6, 29, 30, 31, 32, 33, 34, 35, 36, 37, 38, 2, 39, 40, 41, 42, 43, 44, 45, 46, 47, 48, 49, 50, 51, 52, 53, 54, 55, 56, 57, 58, 59, 60, 61, 62, 63, 64, 65, 66, 67, 68, 69, 70, 71, 72, 73, 74, 75, 76, 77, 78, 79, 80, 81, 82, 83, 84, 85, 86, 87, 88, 89, 90, 91, 92, 93, 94, 95, 96, 97, 98, 99, 100, 101, 102, 103, 104] (by decide +kernel) (by decide +kernel)
set_option maxRecDepth 20000 in
theorem gX11_hinders_X11_seeDays : GoodIn wsX11_hinders (wsV RX11 253 RX11 yX11_seeDays wsX11_seeDays) := goodIn_app (goodIn_of _ (by decide +kernel)) ggX11_hinders_X11_seeDays
set_option maxRecDepth 20000 in
theorem ggX11_hinders_X11_isOpen : GoodIn wsX11_hinders wsX11_isOpen := goodIn_r _ [38, 2, 39, 40, 41, 66, 67, 68, 69, 70, 71, 72, 73, 74, 75, 76, 77, 78, 79, 80, 81, 82, 83, 84, 85, 86, 87, 88, 89, 90, 91, 92, 93, 94, 95, 96, 97, 98, 99, 100, 101, 102, 103, 104] (by decide +kernel) (by decide +kernel)
set_option maxRecDepth 20000 in
theorem gX11_hinders_X11_isOpen : GoodIn wsX11_hinders (wsV RX11 113 RX11 yX11_isOpen wsX11_isOpen) := goodIn_app (goodIn_of _ (by decide +kernel)) ggX11_hinders_X11_isOpen
set_option maxRecDepth 20000 in
theorem ggX11_needs_X11_wrongTwo : GoodIn wsX11_needs wsX11_wrongTwo := goodIn_r _ [7, 8, 9, 6, 10, 11, 12, 13, 14, 15, 16, 17, 18, 19, 20, 66, 67, 68, 69, 70, 71, 72, 73, 74, 75, 76, 77, 78, 79, 80, 81, 82, 83, 84, 85, 86, 87, 88, 89, 90, 91, 92, 93, 94, 95, 96, 97, 98, 99, 100, 101, 102, 103, 104] (by decide +kernel) (by decide +kernel)
set_option maxRecDepth 20000 in
theorem gX11_needs_X11_wrongTwo : GoodIn wsX11_needs (wsV RX11 250 RX11 yX11_wrongTwo wsX11_wrongTwo) := goodIn_app (goodIn_of _ (by decide +kernel)) ggX11_needs_X11_wrongTwo
set_option maxRecDepth 20000 in
theorem ggX11_needs_X11_seeDays : GoodIn wsX11_needs wsX11_seeDays := goodIn_r _ [24, 19, 20, 25, 26, 27, 28, 6, 29, 30, 31, 32, 33, 34, 35, 36, 37, 38, 39, 40, 41, 42, 43, 44, 45, 46, 47, 2, 48, 49, 50, 51, 52, 53, 54, 55, 56, 57, 58, 59, 60, 61, 62, 63, 64, 65, 66, 67, 68, 69, 70, 71, 72, 73, 74, 75, 76, 77, 78, 79, 80, 81, 82, 83, 84, 85, 86, 87, 88, 89, 90, 91, 92, 93, 94, 95, 96, 97, 98, 99, 100, 101, 102, 103, 104] (by decide +kernel) (by decide +kernel)
set_option maxRecDepth 20000 in
theorem gX11_needs_X11_seeDays : GoodIn wsX11_needs (wsV RX11 253 RX11 yX11_seeDays wsX11_seeDays) := goodIn_app (goodIn_of _ (by decide +kernel)) ggX11_needs_X11_seeDays
set_option maxRecDepth 20000 in
theorem ggX11_within_X11_in : GoodIn wsX11_within wsX11_in := goodIn_r _ [9] (by decide +kernel) (by decide +kernel)
set_option maxRecDepth 20000 in
theorem gX11_within_X11_in : GoodIn wsX11_within (va_wsS RX11 92 yX11_in wsX11_in) := goodIn_app (goodIn_of _ (by decide +kernel)) ggX11_within_X11_in
set_option maxRecDepth 20000 in
theorem ggX11_within_X11_areBoth : GoodIn wsX11_within wsX11_areBoth := goodIn_r _ [13, 3, 4, 55, 56, 57, 58, 59, 60, 61, 62, 63, 64, 65, 66, 67, 68, 69, 70, 71, 72, 73, 74, 75, 76, 77, 78, 79, 80, 81, 82, 83, 84, 85, 86, 87, 88, 89, 90, 91, 92, 93] (by decide +kernel) (by decide +kernel)
set_option maxRecDepth 20000 in
theorem gX11_within_X11_areBoth : GoodIn wsX11_within (wsV RX11 243 RX11 yX11_areBoth wsX11_areBoth) := goodIn_app (goodIn_of _ (by decide +kernel)) ggX11_within_X11_areBoth
set_option maxRecDepth 20000 in
theorem ggX11_within_X11_layDaysFrom : GoodIn wsX11_within wsX11_layDaysFrom := goodIn_r _ [17, 5, 18, 19, 20, 21, 8, 22, 23, 24, 25, 26, 27, 28, 29, 30, 31, 32, 33, 34, 35, 36, 37, 38, 39, 40, 41, 42, 43, 44, 45, 46, 47, 48, 49, 50, 51, 52, 53, 54, 55, 56, 57, 58, 59, 60, 61, 62, 63, 64, 65, 66, 67, 68, 69, 70, 71, 72, 73, 74, 75, 76, 77, 78, 79, 80, 81, 82, 83, 84, 85, 86, 87, 88, 89, 90, 91, 92, 93] (by decide +kernel) (by decide +kernel)
set_option maxRecDepth 20000 in
theorem gX11_within_X11_layDaysFrom : GoodIn wsX11_within (wsV RX11 247 RX11 yX11_layDaysFrom wsX11_layDaysFrom) := goodIn_app (goodIn_of _ (by decide +kernel)) ggX11_within_X11_layDaysFrom
set_option maxRecDepth 20000 in
theorem ggX11_layWays_X11_isPair : GoodIn wsX11_layWays wsX11_isPair := goodIn_r _ [9, 10, 11, 12, 8, 13, 14, 15, 16, 17, 18, 19, 20, 21, 22, 23, 24, 25, 26, 27, 28, 29, 30, 31, 32, 33, 34, 42, 43, 44, 45, 46, 47, 48, 49, 50, 51, 52, 53, 54, 55, 56, 57, 58, 59, 60, 61, 62, 63, 64, 65, 66, 67, 68, 69, 70, 71, 72, 73, 74, 75, 76, 77, 78, 79, 80] (by decide +kernel) (by decide +kernel)
set_option maxRecDepth 20000 in
theorem gX11_layWays_X11_isPair : GoodIn wsX11_layWays (wsV RX11 229 RX11 yX11_isPair wsX11_isPair) := goodIn_app (goodIn_of _ (by decide +kernel)) ggX11_layWays_X11_isPair
set_option maxRecDepth 20000 in
theorem ggX11_layWays_X11_goneTo : GoodIn wsX11_layWays wsX11_goneTo := goodIn_r _ [38, 39, 40, 8, 41, 10, 11, 12, 13, 14, 15, 16, 17, 42, 43, 44, 45, 46, 47, 48, 49, 50, 51, 52, 53, 54, 55, 56, 57, 58, 59, 60, 61, 62, 63, 64, 65, 66, 67, 68, 69, 70, 71, 72, 73, 74, 75, 76, 77, 78, 79, 80] (by decide +kernel) (by decide +kernel)
set_option maxRecDepth 20000 in
theorem gX11_layWays_X11_goneTo : GoodIn wsX11_layWays (wsV RX11 121 RX11 yX11_goneTo wsX11_goneTo) := goodIn_app (goodIn_of _ (by decide +kernel)) ggX11_layWays_X11_goneTo
set_option maxRecDepth 20000 in
theorem ggX11_wrongWays_X11_in : GoodIn wsX11_wrongWays wsX11_in := goodIn_r _ [5] (by decide +kernel) (by decide +kernel)
set_option maxRecDepth 20000 in
theorem gX11_wrongWays_X11_in : GoodIn wsX11_wrongWays (va_wsS RX11 92 yX11_in wsX11_in) := goodIn_app (goodIn_of _ (by decide +kernel)) ggX11_wrongWays_X11_in
set_option maxRecDepth 20000 in
theorem ggX11_wrongWays_X11_areBoth : GoodIn wsX11_wrongWays wsX11_areBoth := goodIn_r _ [9, 10, 11, 12, 13, 14, 15, 16, 17, 18, 19, 20, 21, 22, 23, 24, 25, 26, 27, 28, 29, 30, 31, 32, 33, 34, 35, 36, 37, 38, 39, 40, 41, 42, 43, 44, 45, 46, 47, 48, 49, 50] (by decide +kernel) (by decide +kernel)
set_option maxRecDepth 20000 in
theorem gX11_wrongWays_X11_areBoth : GoodIn wsX11_wrongWays (wsV RX11 243 RX11 yX11_areBoth wsX11_areBoth) := goodIn_app (goodIn_of _ (by decide +kernel)) ggX11_wrongWays_X11_areBoth
set_option maxRecDepth 20000 in
theorem ggX11_ways_X11_wrongWays : GoodIn wsX11_ways wsX11_wrongWays := goodIn_r _ [8, 9, 10, 11, 7, 12, 13, 14, 15, 16, 17, 18, 60, 61, 62, 63, 64, 65, 66, 67, 68, 69, 70, 71, 72, 73, 74, 75, 76, 77, 78, 79, 80, 81, 82, 83, 84, 85, 86, 87, 88, 89, 90, 91, 92, 93, 94, 95, 96, 97, 98] (by decide +kernel) (by decide +kernel)
set_option maxRecDepth 20000 in
theorem gX11_ways_X11_wrongWays : GoodIn wsX11_ways (wsV RX11 260 RX11 yX11_wrongWays wsX11_wrongWays) := goodIn_app (goodIn_of _ (by decide +kernel)) ggX11_ways_X11_wrongWays
set_option maxRecDepth 20000 in
theorem ggX11_ways_X11_layWays : GoodIn wsX11_ways wsX11_layWays := goodIn_r _ [22, 3, 17, 18, 23, 24, 25, 26, 7, 27, 28, 29, 30, 31, 32, 33, 34, 35, 36, 37, 38, 39, 40, 41, 42, 43, 44, 45, 46, 47, 48, 49, 50, 51, 52, 53, 54, 55, 56, 57, 58, 59, 60, 61, 62, 63, 64, 65, 66, 67, 68, 69, 70, 71, 72, 73, 74, 75, 76, 77, 78, 79, 80, 81, 82, 83, 84, 85, 86, 87, 88, 89, 90, 91, 92, 93, 94, 95, 96, 97, 98] (by decide +kernel) (by decide +kernel)
set_option maxRecDepth 20000 in
theorem gX11_ways_X11_layWays : GoodIn wsX11_ways (wsV RX11 264 RX11 yX11_layWays wsX11_layWays) := goodIn_app (goodIn_of _ (by decide +kernel)) ggX11_ways_X11_layWays
set_option maxRecDepth 20000 in
theorem ggX11_rounds_X11_wrongWays : GoodIn wsX11_rounds wsX11_wrongWays := goodIn_r _ [10, 11, 12, 13, 9, 14, 15, 16, 17, 18, 4, 5, 60, 61, 62, 63, 64, 65, 66, 67, 68, 69, 70, 71, 72, 73, 74, 75, 76, 77, 78, 79, 80, 81, 82, 83, 84, 85, 86, 87, 88, 89, 90, 91, 92, 93, 94, 95, 96, 97, 98] (by decide +kernel) (by decide +kernel)
set_option maxRecDepth 20000 in
theorem gX11_rounds_X11_wrongWays : GoodIn wsX11_rounds (wsV RX11 260 RX11 yX11_wrongWays wsX11_wrongWays) := goodIn_app (goodIn_of _ (by decide +kernel)) ggX11_rounds_X11_wrongWays
set_option maxRecDepth 20000 in
theorem ggX11_rounds_X11_layWays : GoodIn wsX11_rounds wsX11_layWays := goodIn_r _ [22, 3, 4, 5, 23, 24, 25, 26, 9, 27, 28, 29, 30, 31, 32, 33, 34, 35, 36, 37, 38, 39, 40, 41, 42, 43, 44, 45, 46, 47, 48, 49, 50, 51, 52, 53, 54, 55, 56, 57, 58, 59, 60, 61, 62, 63, 64, 65, 66, 67, 68, 69, 70, 71, 72, 73, 74, 75, 76, 77, 78, 79, 80, 81, 82, 83, 84, 85, 86, 87, 88, 89, 90, 91, 92, 93, 94, 95, 96, 97, 98] (by decide +kernel) (by decide +kernel)
set_option maxRecDepth 20000 in
theorem gX11_rounds_X11_layWays : GoodIn wsX11_rounds (wsV RX11 264 RX11 yX11_layWays wsX11_layWays) := goodIn_app (goodIn_of _ (by decide +kernel)) ggX11_rounds_X11_layWays
set_option maxRecDepth 20000 in
theorem ggX11_late_X11_isCell : GoodIn wsX11_late wsX11_isCell := goodIn_r _ [7, 8, 9, 10, 6, 11] (by decide +kernel) (by decide +kernel)
set_option maxRecDepth 20000 in
theorem gX11_late_X11_isCell : GoodIn wsX11_late (va_wsS RX11 196 yX11_isCell wsX11_isCell) := goodIn_app (goodIn_of _ (by decide +kernel)) ggX11_late_X11_isCell
set_option maxRecDepth 20000 in
theorem ggX11_late_X11_in : GoodIn wsX11_late wsX11_in := goodIn_r _ [11] (by decide +kernel) (by decide +kernel)
set_option maxRecDepth 20000 in
theorem gX11_late_X11_in : GoodIn wsX11_late (va_wsS RX11 92 yX11_in wsX11_in) := goodIn_app (goodIn_of _ (by decide +kernel)) ggX11_late_X11_in
set_option maxRecDepth 20000 in
theorem ggX11_late_X11_isOpen : GoodIn wsX11_late wsX11_isOpen := goodIn_r _ [15, 16, 17, 18, 19, 51, 52, 53, 54, 55, 56, 57, 58, 59, 60, 61, 62, 63, 64, 65, 66, 67, 68, 69, 70, 71, 72, 73, 74, 75, 76, 77, 78, 79, 80, 81, 82, 83, 84, 85, 86, 87, 88, 89] (by decide +kernel) (by decide +kernel)
set_option maxRecDepth 20000 in
theorem gX11_late_X11_isOpen : GoodIn wsX11_late (wsV RX11 113 RX11 yX11_isOpen wsX11_isOpen) := goodIn_app (goodIn_of _ (by decide +kernel)) ggX11_late_X11_isOpen
set_option maxRecDepth 20000 in
theorem ggX11_late_X11_goOn : GoodIn wsX11_late wsX11_goOn := goodIn_r _ [23, 24, 25, 6, 26, 27, 28, 29, 30, 31, 32, 33, 12, 13, 14, 15, 16, 17, 18, 19, 51, 52, 53, 54, 55, 56, 57, 58, 59, 60, 61, 62, 63, 64, 65, 66, 67, 68, 69, 70, 71, 72, 73, 74, 75, 76, 77, 78, 79, 80, 81, 82, 83, 84, 85, 86, 87, 88, 89] (by decide +kernel) (by decide +kernel)
set_option maxRecDepth 20000 in
theorem gX11_late_X11_goOn : GoodIn wsX11_late (wsV RX11 218 RX11 yX11_goOn wsX11_goOn) := goodIn_app (goodIn_of _ (by decide +kernel)) ggX11_late_X11_goOn
set_option maxRecDepth 20000 in
theorem ggX11_late_X11_goneTo : GoodIn wsX11_late wsX11_goneTo := goodIn_r _ [30, 31, 32, 6, 33, 12, 13, 14, 15, 16, 17, 18, 19, 51, 52, 53, 54, 55, 56, 57, 58, 59, 60, 61, 62, 63, 64, 65, 66, 67, 68, 69, 70, 71, 72, 73, 74, 75, 76, 77, 78, 79, 80, 81, 82, 83, 84, 85, 86, 87, 88, 89] (by decide +kernel) (by decide +kernel)
set_option maxRecDepth 20000 in
theorem gX11_late_X11_goneTo : GoodIn wsX11_late (wsV RX11 121 RX11 yX11_goneTo wsX11_goneTo) := goodIn_app (goodIn_of _ (by decide +kernel)) ggX11_late_X11_goneTo
set_option maxRecDepth 20000 in
theorem ggX11_late_X11_isOn : GoodIn wsX11_late wsX11_isOn := goodIn_r _ [26] (by decide +kernel) (by decide +kernel)
set_option maxRecDepth 20000 in
theorem gX11_late_X11_isOn : GoodIn wsX11_late (va_wsS RX11 117 yX11_isOn wsX11_isOn) := goodIn_app (goodIn_of _ (by decide +kernel)) ggX11_late_X11_isOn
set_option maxRecDepth 20000 in
theorem ggX11_late_X11_isOff : GoodIn wsX11_late wsX11_isOff := goodIn_r _ [37, 38, 39, 40, 41, 42, 6, 43, 44, 45, 46, 47, 48, 49, 50, 17, 19, 51, 52, 53, 54, 55, 56, 57, 58, 59, 60, 61, 62, 63, 64, 65, 66, 67, 68, 69, 70, 71, 72, 73, 74, 75, 76, 77, 78, 79, 80, 81, 82, 83, 84, 85, 86, 87, 88, 89] (by decide +kernel) (by decide +kernel)
set_option maxRecDepth 20000 in
theorem gX11_late_X11_isOff : GoodIn wsX11_late (wsV RX11 226 RX11 yX11_isOff wsX11_isOff) := goodIn_app (goodIn_of _ (by decide +kernel)) ggX11_late_X11_isOff
set_option maxRecDepth 20000 in
theorem ggX11_wrongCells_X11_wrongRow : GoodIn wsX11_wrongCells wsX11_wrongRow := goodIn_r _ [7, 8, 9, 10, 11, 6, 12, 17, 18, 19, 20, 21, 22, 23, 24, 25, 26, 27, 28, 29, 30, 31, 32, 33, 34, 35, 36, 37, 38, 39, 40, 41, 42, 43, 44, 45, 46, 47, 48, 49, 50, 51, 52, 53, 54, 55] (by decide +kernel) (by decide +kernel)
set_option maxRecDepth 20000 in
theorem gX11_wrongCells_X11_wrongRow : GoodIn wsX11_wrongCells (wsV RX11 168 RX11 yX11_wrongRow wsX11_wrongRow) := goodIn_app (goodIn_of _ (by decide +kernel)) ggX11_wrongCells_X11_wrongRow
set_option maxRecDepth 20000 in
theorem ggX11_wrongCells_X11_isCell : GoodIn wsX11_wrongCells wsX11_isCell := goodIn_r _ [15, 16, 10, 11, 6, 12] (by decide +kernel) (by decide +kernel)
set_option maxRecDepth 20000 in
theorem gX11_wrongCells_X11_isCell : GoodIn wsX11_wrongCells (va_wsS RX11 196 yX11_isCell wsX11_isCell) := goodIn_app (goodIn_of _ (by decide +kernel)) ggX11_wrongCells_X11_isCell
set_option maxRecDepth 20000 in
theorem ggX11_notOff_X11_isOn : GoodIn wsX11_notOff wsX11_isOn := goodIn_r _ [5] (by decide +kernel) (by decide +kernel)
set_option maxRecDepth 20000 in
theorem gX11_notOff_X11_isOn : GoodIn wsX11_notOff (va_wsS RX11 117 yX11_isOn wsX11_isOn) := goodIn_app (goodIn_of _ (by decide +kernel)) ggX11_notOff_X11_isOn
set_option maxRecDepth 20000 in
theorem ggX11_notOff_X11_isOff : GoodIn wsX11_notOff wsX11_isOff := goodIn_r _ [9, 10, 11, 12, 13, 14, 4, 15, 16, 17, 18, 19, 20, 21, 22, 23, 24, 25, 26, 27, 28, 29, 30, 31, 32, 33, 34, 35, 36, 37, 38, 39, 40, 41, 42, 43, 44, 45, 46, 47, 48, 49, 50, 51, 52, 53, 54, 55, 56, 57, 58, 59, 60, 61, 62, 63] (by decide +kernel) (by decide +kernel)
set_option maxRecDepth 20000 in
theorem gX11_notOff_X11_isOff : GoodIn wsX11_notOff (wsV RX11 226 RX11 yX11_isOff wsX11_isOff) := goodIn_app (goodIn_of _ (by decide +kernel)) ggX11_notOff_X11_isOff
set_option maxRecDepth 20000 in
theorem ggX11_toTheLast_X11_goOn : GoodIn wsX11_toTheLast wsX11_goOn := goodIn_r _ [6, 7, 8, 5, 9, 10, 11, 12, 13, 14, 15, 16, 17, 18, 19, 20, 21, 22, 23, 24, 47, 48, 49, 50, 51, 52, 53, 54, 55, 56, 57, 58, 59, 60, 61, 62, 63, 64, 65, 66, 67, 68, 69, 70, 71, 72, 73, 74, 75, 76, 77, 78, 79, 80, 81, 82, 83, 84, 85] (by decide +kernel) (by decide +kernel)
set_option maxRecDepth 20000 in
theorem gX11_toTheLast_X11_goOn : GoodIn wsX11_toTheLast (wsV RX11 218 RX11 yX11_goOn wsX11_goOn) := goodIn_app (goodIn_of _ (by decide +kernel)) ggX11_toTheLast_X11_goOn
set_option maxRecDepth 20000 in
theorem ggX11_toTheLast_X11_notOff : GoodIn wsX11_toTheLast wsX11_notOff := goodIn_r _ [28, 29, 7, 8, 5, 9, 30, 31, 32, 33, 34, 35, 36, 37, 38, 39, 40, 41, 42, 43, 44, 45, 46, 22, 24, 47, 48, 49, 50, 51, 52, 53, 54, 55, 56, 57, 58, 59, 60, 61, 62, 63, 64, 65, 66, 67, 68, 69, 70, 71, 72, 73, 74, 75, 76, 77, 78, 79, 80, 81, 82, 83, 84, 85] (by decide +kernel) (by decide +kernel)
set_option maxRecDepth 20000 in
theorem gX11_toTheLast_X11_notOff : GoodIn wsX11_toTheLast (wsV RX11 269 RX11 yX11_notOff wsX11_notOff) := goodIn_app (goodIn_of _ (by decide +kernel)) ggX11_toTheLast_X11_notOff
set_option maxRecDepth 20000 in
theorem ggX11_hisWay_X11_in : GoodIn wsX11_hisWay wsX11_in := goodIn_r _ [6] (by decide +kernel) (by decide +kernel)
set_option maxRecDepth 20000 in
theorem gX11_hisWay_X11_in : GoodIn wsX11_hisWay (va_wsS RX11 92 yX11_in wsX11_in) := goodIn_app (goodIn_of _ (by decide +kernel)) ggX11_hisWay_X11_in
set_option maxRecDepth 20000 in
theorem ggX11_hisWay_X11_wrongCells : GoodIn wsX11_hisWay wsX11_wrongCells := goodIn_r _ [10, 11, 12, 13, 14, 15, 5, 16, 17, 18, 3, 4, 6, 19, 20, 21, 22, 77, 78, 79, 80, 81, 82, 83, 84, 85, 86, 87, 88, 89, 90, 91, 92, 93, 94, 95, 96, 97, 98, 99, 100, 101, 102, 103, 104, 105, 106, 107, 108, 109, 110, 111, 112, 113, 114, 115] (by decide +kernel) (by decide +kernel)
set_option maxRecDepth 20000 in
theorem gX11_hisWay_X11_wrongCells : GoodIn wsX11_hisWay (wsV RX11 273 RX11 yX11_wrongCells wsX11_wrongCells) := goodIn_app (goodIn_of _ (by decide +kernel)) ggX11_hisWay_X11_wrongCells
set_option maxRecDepth 20000 in
theorem ggX11_hisWay_X11_openCells : GoodIn wsX11_hisWay wsX11_openCells := goodIn_r _ [26, 27, 28, 29, 5, 30, 31, 32, 33, 34, 77, 78, 79, 80, 81, 82, 83, 84, 85, 86, 87, 88, 89, 90, 91, 92, 93, 94, 95, 96, 97, 98, 99, 100, 101, 102, 103, 104, 105, 106, 107, 108, 109, 110, 111, 112, 113, 114, 115] (by decide +kernel) (by decide +kernel)
set_option maxRecDepth 20000 in
theorem gX11_hisWay_X11_openCells : GoodIn wsX11_hisWay (wsV RX11 214 RX11 yX11_openCells wsX11_openCells) := goodIn_app (goodIn_of _ (by decide +kernel)) ggX11_hisWay_X11_openCells
set_option maxRecDepth 20000 in
theorem ggX11_hisWay_X11_notOff : GoodIn wsX11_hisWay wsX11_notOff := goodIn_r _ [38, 12, 39, 40, 5, 41, 42, 43, 44, 45, 46, 47, 48, 49, 50, 51, 52, 53, 54, 55, 56, 57, 58, 32, 34, 77, 78, 79, 80, 81, 82, 83, 84, 85, 86, 87, 88, 89, 90, 91, 92, 93, 94, 95, 96, 97, 98, 99, 100, 101, 102, 103, 104, 105, 106, 107, 108, 109, 110, 111, 112, 113, 114, 115] (by decide +kernel) (by decide +kernel)
set_option maxRecDepth 20000 in
theorem gX11_hisWay_X11_notOff : GoodIn wsX11_hisWay (wsV RX11 269 RX11 yX11_notOff wsX11_notOff) := goodIn_app (goodIn_of _ (by decide +kernel)) ggX11_hisWay_X11_notOff
set_option maxRecDepth 20000 in
theorem ggX11_hisWay_X11_toTheLast : GoodIn wsX11_hisWay wsX11_toTheLast := goodIn_r _ [62, 11, 63, 64, 65, 5, 66, 39, 40, 41, 67, 68, 69, 70, 71, 72, 73, 27, 28, 29, 30, 31, 32, 33, 34, 35, 36, 37, 38, 12, 42, 43, 44, 45, 46, 47, 48, 49, 50, 51, 52, 53, 54, 55, 56, 57, 58, 77, 78, 79, 80, 81, 82, 83, 84, 85, 86, 87, 88, 89, 90, 91, 92, 93, 94, 95, 96, 97, 98, 99, 100, 101, 102, 103, 104, 105, 106, 107, 108, 109, 110, 111, 112, 113, 114, 115] (by decide +kernel) (by decide +kernel)
set_option maxRecDepth 20000 in
theorem gX11_hisWay_X11_toTheLast : GoodIn wsX11_hisWay (wsV RX11 276 RX11 yX11_toTheLast wsX11_toTheLast) := goodIn_app (goodIn_of _ (by decide +kernel)) ggX11_hisWay_X11_toTheLast
set_option maxRecDepth 20000 in
theorem ggX11_hisWay_X11_onesOf : GoodIn wsX11_hisWay wsX11_onesOf := goodIn_r _ [76] (by decide +kernel) (by decide +kernel)
set_option maxRecDepth 20000 in
theorem gX11_hisWay_X11_onesOf : GoodIn wsX11_hisWay (va_wsS RX11 239 yX11_onesOf wsX11_onesOf) := goodIn_app (goodIn_of _ (by decide +kernel)) ggX11_hisWay_X11_onesOf
set_option maxRecDepth 20000 in
theorem ggX11_letter_X11_wrongCells : GoodIn wsX11_letter wsX11_wrongCells := goodIn_r _ [7, 2, 8, 9, 10, 11, 6, 12, 13, 14, 15, 16, 17, 18, 19, 20, 21, 76, 77, 78, 79, 80, 81, 82, 83, 84, 85, 86, 87, 88, 89, 90, 91, 92, 93, 94, 95, 96, 97, 98, 99, 100, 101, 102, 103, 104, 105, 106, 107, 108, 109, 110, 111, 112, 113, 114] (by decide +kernel) (by decide +kernel)
set_option maxRecDepth 20000 in
theorem gX11_letter_X11_wrongCells : GoodIn wsX11_letter (wsV RX11 273 RX11 yX11_wrongCells wsX11_wrongCells) := goodIn_app (goodIn_of _ (by decide +kernel)) ggX11_letter_X11_wrongCells
set_option maxRecDepth 20000 in
theorem ggX11_letter_X11_openCells : GoodIn wsX11_letter wsX11_openCells := goodIn_r _ [25, 26, 27, 28, 6, 29, 30, 31, 32, 33, 76, 77, 78, 79, 80, 81, 82, 83, 84, 85, 86, 87, 88, 89, 90, 91, 92, 93, 94, 95, 96, 97, 98, 99, 100, 101, 102, 103, 104, 105, 106, 107, 108, 109, 110, 111, 112, 113, 114] (by decide +kernel) (by decide +kernel)
set_option maxRecDepth 20000 in
theorem gX11_letter_X11_openCells : GoodIn wsX11_letter (wsV RX11 214 RX11 yX11_openCells wsX11_openCells) := goodIn_app (goodIn_of _ (by decide +kernel)) ggX11_letter_X11_openCells
set_option maxRecDepth 20000 in
theorem ggX11_letter_X11_notOff : GoodIn wsX11_letter wsX11_notOff := goodIn_r _ [37, 8, 38, 39, 6, 40, 41, 42, 43, 44, 45, 46, 47, 48, 49, 50, 51, 52, 53, 54, 55, 56, 57, 31, 33, 76, 77, 78, 79, 80, 81, 82, 83, 84, 85, 86, 87, 88, 89, 90, 91, 92, 93, 94, 95, 96, 97, 98, 99, 100, 101, 102, 103, 104, 105, 106, 107, 108, 109, 110, 111, 112, 113, 114] (by decide +kernel) (by decide +kernel)
set_option maxRecDepth 20000 in
theorem gX11_letter_X11_notOff : GoodIn wsX11_letter (wsV RX11 269 RX11 yX11_notOff wsX11_notOff) := goodIn_app (goodIn_of _ (by decide +kernel)) ggX11_letter_X11_notOff
set_option maxRecDepth 20000 in
theorem ggX11_letter_X11_goOn : GoodIn wsX11_letter wsX11_goOn := goodIn_r _ [61, 38, 39, 6, 40, 62, 63, 64, 65, 66, 67, 68, 26, 27, 28, 29, 30, 31, 32, 33, 76, 77, 78, 79, 80, 81, 82, 83, 84, 85, 86, 87, 88, 89, 90, 91, 92, 93, 94, 95, 96, 97, 98, 99, 100, 101, 102, 103, 104, 105, 106, 107, 108, 109, 110, 111, 112, 113, 114] (by decide +kernel) (by decide +kernel)
set_option maxRecDepth 20000 in
theorem gX11_letter_X11_goOn : GoodIn wsX11_letter (wsV RX11 218 RX11 yX11_goOn wsX11_goOn) := goodIn_app (goodIn_of _ (by decide +kernel)) ggX11_letter_X11_goOn
set_option maxRecDepth 20000 in
theorem ggX11_letter_X11_isOn : GoodIn wsX11_letter wsX11_isOn := goodIn_r _ [40] (by decide +kernel) (by decide +kernel)
set_option maxRecDepth 20000 in
theorem gX11_letter_X11_isOn : GoodIn wsX11_letter (va_wsS RX11 117 yX11_isOn wsX11_isOn) := goodIn_app (goodIn_of _ (by decide +kernel)) ggX11_letter_X11_isOn
set_option maxRecDepth 20000 in
theorem ggX11_letter_X11_toTheLast : GoodIn wsX11_letter wsX11_toTheLast := goodIn_r _ [72, 2, 58, 59, 60, 6, 61, 38, 39, 40, 62, 63, 64, 65, 66, 67, 68, 26, 27, 28, 29, 30, 31, 32, 33, 34, 35, 36, 37, 8, 41, 42, 43, 44, 45, 46, 47, 48, 49, 50, 51, 52, 53, 54, 55, 56, 57, 76, 77, 78, 79, 80, 81, 82, 83, 84, 85, 86, 87, 88, 89, 90, 91, 92, 93, 94, 95, 96, 97, 98, 99, 100, 101, 102, 103, 104, 105, 106, 107, 108, 109, 110, 111, 112, 113, 114] (by decide +kernel) (by decide +kernel)
set_option maxRecDepth 20000 in
theorem gX11_letter_X11_toTheLast : GoodIn wsX11_letter (wsV RX11 276 RX11 yX11_toTheLast wsX11_toTheLast) := goodIn_app (goodIn_of _ (by decide +kernel)) ggX11_letter_X11_toTheLast
set_option maxRecDepth 20000 in
theorem ggX11_letter_X11_onesOf : GoodIn wsX11_letter wsX11_onesOf := goodIn_r _ [75] (by decide +kernel) (by decide +kernel)
set_option maxRecDepth 20000 in
theorem gX11_letter_X11_onesOf : GoodIn wsX11_letter (va_wsS RX11 239 yX11_onesOf wsX11_onesOf) := goodIn_app (goodIn_of _ (by decide +kernel)) ggX11_letter_X11_onesOf
set_option maxRecDepth 20000 in
theorem ggX11_third_X11_in : GoodIn wsX11_third wsX11_in := goodIn_r _ [7] (by decide +kernel) (by decide +kernel)
set_option maxRecDepth 20000 in
theorem gX11_third_X11_in : GoodIn wsX11_third (va_wsS RX11 92 yX11_in wsX11_in) := goodIn_app (goodIn_of _ (by decide +kernel)) ggX11_third_X11_in
set_option maxRecDepth 20000 in
theorem ggX11_third_X11_areBoth : GoodIn wsX11_third wsX11_areBoth := goodIn_r _ [11, 2, 3, 37, 38, 39, 40, 41, 42, 43, 44, 45, 46, 47, 48, 49, 50, 51, 52, 53, 54, 55, 56, 57, 58, 59, 60, 61, 62, 63, 64, 65, 66, 67, 68, 69, 70, 71, 72, 73, 74, 75] (by decide +kernel) (by decide +kernel)
set_option maxRecDepth 20000 in
theorem gX11_third_X11_areBoth : GoodIn wsX11_third (wsV RX11 243 RX11 yX11_areBoth wsX11_areBoth) := goodIn_app (goodIn_of _ (by decide +kernel)) ggX11_third_X11_areBoth
set_option maxRecDepth 20000 in
theorem ggX11_third_X11_isOpen : GoodIn wsX11_third wsX11_isOpen := goodIn_r _ [15, 16, 17, 18, 19, 37, 38, 39, 40, 41, 42, 43, 44, 45, 46, 47, 48, 49, 50, 51, 52, 53, 54, 55, 56, 57, 58, 59, 60, 61, 62, 63, 64, 65, 66, 67, 68, 69, 70, 71, 72, 73, 74, 75] (by decide +kernel) (by decide +kernel)
set_option maxRecDepth 20000 in
theorem gX11_third_X11_isOpen : GoodIn wsX11_third (wsV RX11 113 RX11 yX11_isOpen wsX11_isOpen) := goodIn_app (goodIn_of _ (by decide +kernel)) ggX11_third_X11_isOpen
set_option maxRecDepth 20000 in
theorem ggX11_third_X11_isOff : GoodIn wsX11_third wsX11_isOff := goodIn_r _ [23, 24, 25, 26, 27, 28, 6, 29, 30, 31, 32, 33, 34, 35, 36, 17, 19, 37, 38, 39, 40, 41, 42, 43, 44, 45, 46, 47, 48, 49, 50, 51, 52, 53, 54, 55, 56, 57, 58, 59, 60, 61, 62, 63, 64, 65, 66, 67, 68, 69, 70, 71, 72, 73, 74, 75] (by decide +kernel) (by decide +kernel)
set_option maxRecDepth 20000 in
theorem gX11_third_X11_isOff : GoodIn wsX11_third (wsV RX11 226 RX11 yX11_isOff wsX11_isOff) := goodIn_app (goodIn_of _ (by decide +kernel)) ggX11_third_X11_isOff
set_option maxRecDepth 20000 in
theorem ggX11_farBy_X11_goneTo : GoodIn wsX11_farBy wsX11_goneTo := goodIn_r _ [7, 8, 9, 6, 10, 11, 12, 13, 14, 15, 16, 17, 18, 30, 31, 32, 33, 34, 35, 36, 37, 38, 39, 40, 41, 42, 43, 44, 45, 46, 47, 48, 49, 50, 51, 52, 53, 54, 55, 56, 57, 58, 59, 60, 61, 62, 63, 64, 65, 66, 67, 68] (by decide +kernel) (by decide +kernel)
set_option maxRecDepth 20000 in
theorem gX11_farBy_X11_goneTo : GoodIn wsX11_farBy (wsV RX11 121 RX11 yX11_goneTo wsX11_goneTo) := goodIn_app (goodIn_of _ (by decide +kernel)) ggX11_farBy_X11_goneTo
set_option maxRecDepth 20000 in
theorem ggX11_farBy_X11_farOf : GoodIn wsX11_farBy wsX11_farOf := goodIn_r _ [22, 23, 24, 6, 25, 26, 27, 28, 29, 16, 18, 30, 31, 32, 33, 34, 35, 36, 37, 38, 39, 40, 41, 42, 43, 44, 45, 46, 47, 48, 49, 50, 51, 52, 53, 54, 55, 56, 57, 58, 59, 60, 61, 62, 63, 64, 65, 66, 67, 68] (by decide +kernel) (by decide +kernel)
set_option maxRecDepth 20000 in
theorem gX11_farBy_X11_farOf : GoodIn wsX11_farBy (wsV RX11 106 RX11 yX11_farOf wsX11_farOf) := goodIn_app (goodIn_of _ (by decide +kernel)) ggX11_farBy_X11_farOf
set_option maxRecDepth 20000 in
theorem ggX11_rests_X11_farBy : GoodIn wsX11_rests wsX11_farBy := goodIn_r _ [5, 6, 7, 8, 9, 10, 4, 11, 12, 13, 14, 15, 16, 17, 18, 19, 20, 21, 22, 23, 24, 25, 26, 27, 28, 29, 30, 31, 32, 33, 34, 35, 36, 37, 38, 39, 40, 41, 42, 43, 44, 45, 46, 47, 48, 49, 50, 51, 52, 53, 54, 55, 56, 57, 58, 59, 60, 61, 62, 63, 64, 65, 66, 67, 68, 69, 70, 71, 72] (by decide +kernel) (by decide +kernel)
set_option maxRecDepth 20000 in
theorem gX11_rests_X11_farBy : GoodIn wsX11_rests (wsV RX11 279 RX11 yX11_farBy wsX11_farBy) := goodIn_app (goodIn_of _ (by decide +kernel)) ggX11_rests_X11_farBy
set_option maxRecDepth 20000 in
theorem ggX11_game_X11_in : GoodIn wsX11_game wsX11_in := goodIn_r _ [5] (by decide +kernel) (by decide +kernel)
set_option maxRecDepth 20000 in
theorem gX11_game_X11_in : GoodIn wsX11_game (va_wsS RX11 92 yX11_in wsX11_in) := goodIn_app (goodIn_of _ (by decide +kernel)) ggX11_game_X11_in
set_option maxRecDepth 20000 in
theorem ggX11_game_X11_areBoth : GoodIn wsX11_game wsX11_areBoth := goodIn_r _ [9, 10, 11, 46, 47, 48, 49, 50, 51, 52, 53, 54, 55, 56, 57, 58, 59, 60, 61, 62, 63, 64, 65, 66, 67, 68, 69, 70, 71, 72, 73, 74, 75, 76, 77, 78, 79, 80, 81, 82, 83, 84] (by decide +kernel) (by decide +kernel)
set_option maxRecDepth 20000 in
theorem gX11_game_X11_areBoth : GoodIn wsX11_game (wsV RX11 243 RX11 yX11_areBoth wsX11_areBoth) := goodIn_app (goodIn_of _ (by decide +kernel)) ggX11_game_X11_areBoth
set_option maxRecDepth 20000 in
theorem ggX11_game_X11_rests : GoodIn wsX11_game wsX11_rests := goodIn_r _ [15, 16, 17, 18, 4, 19, 10, 11, 20, 21, 22, 23, 24, 25, 26, 27, 28, 29, 30, 31, 32, 33, 34, 35, 36, 37, 38, 39, 40, 41, 42, 43, 44, 45, 46, 47, 48, 49, 50, 51, 52, 53, 54, 55, 56, 57, 58, 59, 60, 61, 62, 63, 64, 65, 66, 67, 68, 69, 70, 71, 72, 73, 74, 75, 76, 77, 78, 79, 80, 81, 82, 83, 84] (by decide +kernel) (by decide +kernel)
set_option maxRecDepth 20000 in
theorem gX11_game_X11_rests : GoodIn wsX11_game (wsV RX11 282 RX11 yX11_rests wsX11_rests) := goodIn_app (goodIn_of _ (by decide +kernel)) ggX11_game_X11_rests
set_option maxRecDepth 20000 in
theorem ggX11_game_X11_farBy : GoodIn wsX11_game wsX11_farBy := goodIn_r _ [19, 10, 11, 20, 21, 22, 4, 23, 24, 25, 26, 27, 28, 29, 30, 31, 32, 33, 34, 35, 36, 37, 38, 39, 40, 41, 42, 43, 44, 45, 46, 47, 48, 49, 50, 51, 52, 53, 54, 55, 56, 57, 58, 59, 60, 61, 62, 63, 64, 65, 66, 67, 68, 69, 70, 71, 72, 73, 74, 75, 76, 77, 78, 79, 80, 81, 82, 83, 84] (by decide +kernel) (by decide +kernel)
set_option maxRecDepth 20000 in
theorem gX11_game_X11_farBy : GoodIn wsX11_game (wsV RX11 279 RX11 yX11_farBy wsX11_farBy) := goodIn_app (goodIn_of _ (by decide +kernel)) ggX11_game_X11_farBy
set_option maxRecDepth 20000 in
theorem ggX11_partOf_X11_divisor : GoodIn wsX11_partOf wsX11_divisor := goodIn_r _ [4] (by decide +kernel) (by decide +kernel)
set_option maxRecDepth 20000 in
theorem gX11_partOf_X11_divisor : GoodIn wsX11_partOf (va_wsS RX11 285 yX11_divisor wsX11_divisor) := goodIn_app (goodIn_of _ (by decide +kernel)) ggX11_partOf_X11_divisor
set_option maxRecDepth 20000 in
theorem ggX11_isWay_X11_isOn : GoodIn wsX11_isWay wsX11_isOn := goodIn_r _ [4] (by decide +kernel) (by decide +kernel)
set_option maxRecDepth 20000 in
theorem gX11_isWay_X11_isOn : GoodIn wsX11_isWay (va_wsS RX11 117 yX11_isOn wsX11_isOn) := goodIn_app (goodIn_of _ (by decide +kernel)) ggX11_isWay_X11_isOn
set_option maxRecDepth 20000 in
theorem ggX11_isWay_X11_beside : GoodIn wsX11_isWay wsX11_beside := goodIn_r _ [7] (by decide +kernel) (by decide +kernel)
set_option maxRecDepth 20000 in
theorem gX11_isWay_X11_beside : GoodIn wsX11_isWay (va_wsS RX11 110 yX11_beside wsX11_beside) := goodIn_app (goodIn_of _ (by decide +kernel)) ggX11_isWay_X11_beside
set_option maxRecDepth 20000 in
theorem ggX11_snow_X11_isCell : GoodIn wsX11_snow wsX11_isCell := goodIn_r _ [10, 11, 12, 13, 9, 14] (by decide +kernel) (by decide +kernel)
set_option maxRecDepth 20000 in
theorem gX11_snow_X11_isCell : GoodIn wsX11_snow (va_wsS RX11 196 yX11_isCell wsX11_isCell) := goodIn_app (goodIn_of _ (by decide +kernel)) ggX11_snow_X11_isCell
set_option maxRecDepth 20000 in
theorem ggX11_snow_X11_in : GoodIn wsX11_snow wsX11_in := goodIn_r _ [14] (by decide +kernel) (by decide +kernel)
set_option maxRecDepth 20000 in
theorem gX11_snow_X11_in : GoodIn wsX11_snow (va_wsS RX11 92 yX11_in wsX11_in) := goodIn_app (goodIn_of _ (by decide +kernel)) ggX11_snow_X11_in
set_option maxRecDepth 20000 in
theorem ggX11_snow_X11_chanceOf : GoodIn wsX11_snow wsX11_chanceOf := goodIn_r _ [18, 19, 20, 36, 37, 38, 39, 40, 41, 42, 43, 44, 45, 46, 47, 48, 49, 50, 51, 52, 53, 54, 55, 56, 57, 58, 59, 60, 61, 62, 63, 64, 65, 66, 67, 68, 69, 70, 71, 72, 73, 74] (by decide +kernel) (by decide +kernel)
set_option maxRecDepth 20000 in
theorem gX11_snow_X11_chanceOf : GoodIn wsX11_snow (wsV RX11 200 RX11 yX11_chanceOf wsX11_chanceOf) := goodIn_app (goodIn_of _ (by decide +kernel)) ggX11_snow_X11_chanceOf
set_option maxRecDepth 20000 in
theorem ggX11_snow_X11_isWay : GoodIn wsX11_snow wsX11_isWay := goodIn_r _ [23, 24, 25, 9, 26, 27, 28, 29] (by decide +kernel) (by decide +kernel)
set_option maxRecDepth 20000 in
theorem gX11_snow_X11_isWay : GoodIn wsX11_snow (va_wsS RX11 295 yX11_isWay wsX11_isWay) := goodIn_app (goodIn_of _ (by decide +kernel)) ggX11_snow_X11_isWay
set_option maxRecDepth 20000 in
theorem ggX11_snow_X11_partOf : GoodIn wsX11_snow wsX11_partOf := goodIn_r _ [32, 33, 34, 9, 35] (by decide +kernel) (by decide +kernel)
set_option maxRecDepth 20000 in
theorem gX11_snow_X11_partOf : GoodIn wsX11_snow (va_wsS RX11 299 yX11_partOf wsX11_partOf) := goodIn_app (goodIn_of _ (by decide +kernel)) ggX11_snow_X11_partOf
set_option maxRecDepth 20000 in
theorem ggX11_mean_X11_in : GoodIn wsX11_mean wsX11_in := goodIn_r _ [6] (by decide +kernel) (by decide +kernel)
set_option maxRecDepth 20000 in
theorem gX11_mean_X11_in : GoodIn wsX11_mean (va_wsS RX11 92 yX11_in wsX11_in) := goodIn_app (goodIn_of _ (by decide +kernel)) ggX11_mean_X11_in
set_option maxRecDepth 20000 in
theorem ggX11_mean_X11_isPair : GoodIn wsX11_mean wsX11_isPair := goodIn_r _ [10, 11, 12, 13, 5, 14, 15, 16, 17, 18, 19, 20, 21, 22, 23, 24, 25, 26, 27, 28, 29, 30, 31, 32, 33, 34, 35, 46, 47, 48, 49, 50, 51, 52, 53, 54, 55, 56, 57, 58, 59, 60, 61, 62, 63, 64, 65, 66, 67, 68, 69, 70, 71, 72, 73, 74, 75, 76, 77, 78, 79, 80, 81, 82, 83, 84] (by decide +kernel) (by decide +kernel)
set_option maxRecDepth 20000 in
theorem gX11_mean_X11_isPair : GoodIn wsX11_mean (wsV RX11 229 RX11 yX11_isPair wsX11_isPair) := goodIn_app (goodIn_of _ (by decide +kernel)) ggX11_mean_X11_isPair
set_option maxRecDepth 20000 in
theorem ggX11_mean_X11_farOf : GoodIn wsX11_mean wsX11_farOf := goodIn_r _ [28, 29, 30, 5, 31, 32, 33, 34, 35, 16, 18, 46, 47, 48, 49, 50, 51, 52, 53, 54, 55, 56, 57, 58, 59, 60, 61, 62, 63, 64, 65, 66, 67, 68, 69, 70, 71, 72, 73, 74, 75, 76, 77, 78, 79, 80, 81, 82, 83, 84] (by decide +kernel) (by decide +kernel)
set_option maxRecDepth 20000 in
theorem gX11_mean_X11_farOf : GoodIn wsX11_mean (wsV RX11 106 RX11 yX11_farOf wsX11_farOf) := goodIn_app (goodIn_of _ (by decide +kernel)) ggX11_mean_X11_farOf
set_option maxRecDepth 20000 in
theorem ggX11_mean_X11_pairMany : GoodIn wsX11_mean wsX11_pairMany := goodIn_r _ [39, 7, 8, 9, 5, 10, 11, 12, 13, 14, 15, 16, 17, 18, 19, 20, 21, 22, 23, 24, 25, 26, 27, 28, 29, 30, 31, 32, 33, 34, 35, 46, 47, 48, 49, 50, 51, 52, 53, 54, 55, 56, 57, 58, 59, 60, 61, 62, 63, 64, 65, 66, 67, 68, 69, 70, 71, 72, 73, 74, 75, 76, 77, 78, 79, 80, 81, 82, 83, 84] (by decide +kernel) (by decide +kernel)
set_option maxRecDepth 20000 in
theorem gX11_mean_X11_pairMany : GoodIn wsX11_mean (wsV RX11 232 RX11 yX11_pairMany wsX11_pairMany) := goodIn_app (goodIn_of _ (by decide +kernel)) ggX11_mean_X11_pairMany
set_option maxRecDepth 20000 in
theorem ggX11_mean_X11_partOf : GoodIn wsX11_mean wsX11_partOf := goodIn_r _ [42, 43, 44, 5, 45] (by decide +kernel) (by decide +kernel)
set_option maxRecDepth 20000 in
theorem gX11_mean_X11_partOf : GoodIn wsX11_mean (va_wsS RX11 299 yX11_partOf wsX11_partOf) := goodIn_app (goodIn_of _ (by decide +kernel)) ggX11_mean_X11_partOf
set_option maxRecDepth 20000 in
theorem ggX11_curve_X11_in : GoodIn wsX11_curve wsX11_in := goodIn_r _ [7] (by decide +kernel) (by decide +kernel)
set_option maxRecDepth 20000 in
theorem gX11_curve_X11_in : GoodIn wsX11_curve (va_wsS RX11 92 yX11_in wsX11_in) := goodIn_app (goodIn_of _ (by decide +kernel)) ggX11_curve_X11_in
set_option maxRecDepth 20000 in
theorem ggX11_curve_X11_pairMany : GoodIn wsX11_curve wsX11_pairMany := goodIn_r _ [11, 12, 13, 14, 6, 15, 16, 17, 18, 19, 20, 21, 22, 23, 24, 25, 26, 27, 28, 3, 29, 30, 31, 32, 33, 34, 35, 36, 37, 38, 39, 40, 41, 42, 43, 44, 45, 46, 47, 48, 49, 50, 51, 52, 53, 54, 55, 56, 57, 58, 59, 60, 61, 62, 63, 64, 65, 66, 67, 68, 69, 70, 71, 72, 73, 74, 75, 76, 77, 78] (by decide +kernel) (by decide +kernel)
set_option maxRecDepth 20000 in
theorem gX11_curve_X11_pairMany : GoodIn wsX11_curve (wsV RX11 232 RX11 yX11_pairMany wsX11_pairMany) := goodIn_app (goodIn_of _ (by decide +kernel)) ggX11_curve_X11_pairMany
set_option maxRecDepth 20000 in
theorem ggX11_stayOrGo_X11_goOn : GoodIn wsX11_stayOrGo wsX11_goOn := goodIn_r _ [5, 6, 7, 4, 8, 9, 10, 11, 12, 13, 14, 15, 16, 17, 18, 19, 20, 21, 22, 23, 24, 25, 26, 27, 28, 29, 30, 31, 32, 33, 34, 35, 36, 37, 38, 39, 40, 41, 42, 43, 44, 45, 46, 47, 48, 49, 50, 51, 52, 53, 54, 55, 56, 57, 58, 59, 60, 61, 62] (by decide +kernel) (by decide +kernel)
set_option maxRecDepth 20000 in
theorem gX11_stayOrGo_X11_goOn : GoodIn wsX11_stayOrGo (wsV RX11 218 RX11 yX11_goOn wsX11_goOn) := goodIn_app (goodIn_of _ (by decide +kernel)) ggX11_stayOrGo_X11_goOn
set_option maxRecDepth 20000 in
theorem ggX11_judge_X11_in : GoodIn wsX11_judge wsX11_in := goodIn_r _ [9] (by decide +kernel) (by decide +kernel)
set_option maxRecDepth 20000 in
theorem gX11_judge_X11_in : GoodIn wsX11_judge (va_wsS RX11 92 yX11_in wsX11_in) := goodIn_app (goodIn_of _ (by decide +kernel)) ggX11_judge_X11_in
set_option maxRecDepth 20000 in
theorem ggX11_judge_X11_wrongRow : GoodIn wsX11_judge wsX11_wrongRow := goodIn_r _ [13, 2, 14, 6, 7, 8, 9, 53, 54, 55, 56, 57, 58, 59, 60, 61, 62, 63, 64, 65, 66, 67, 68, 69, 70, 71, 72, 73, 74, 75, 76, 77, 78, 79, 80, 81, 82, 83, 84, 85, 86, 87, 88, 89, 90, 91] (by decide +kernel) (by decide +kernel)
set_option maxRecDepth 20000 in
theorem gX11_judge_X11_wrongRow : GoodIn wsX11_judge (wsV RX11 168 RX11 yX11_wrongRow wsX11_wrongRow) := goodIn_app (goodIn_of _ (by decide +kernel)) ggX11_judge_X11_wrongRow
set_option maxRecDepth 20000 in
theorem ggX11_judge_X11_stayOrGo : GoodIn wsX11_judge wsX11_stayOrGo := goodIn_r _ [18, 19, 20, 21, 8, 22, 23, 24, 25, 26, 27, 28, 29, 30, 31, 32, 33, 34, 35, 36, 37, 38, 39, 40, 53, 54, 55, 56, 57, 58, 59, 60, 61, 62, 63, 64, 65, 66, 67, 68, 69, 70, 71, 72, 73, 74, 75, 76, 77, 78, 79, 80, 81, 82, 83, 84, 85, 86, 87, 88, 89, 90, 91] (by decide +kernel) (by decide +kernel)
set_option maxRecDepth 20000 in
theorem gX11_judge_X11_stayOrGo : GoodIn wsX11_judge (wsV RX11 309 RX11 yX11_stayOrGo wsX11_stayOrGo) := goodIn_app (goodIn_of _ (by decide +kernel)) ggX11_judge_X11_stayOrGo
set_option maxRecDepth 20000 in
theorem ggX11_judge_X11_skipped : GoodIn wsX11_judge wsX11_skipped := goodIn_r _ [44, 45, 46, 47, 48, 53, 54, 55, 56, 57, 58, 59, 60, 61, 62, 63, 64, 65, 66, 67, 68, 69, 70, 71, 72, 73, 74, 75, 76, 77, 78, 79, 80, 81, 82, 83, 84, 85, 86, 87, 88, 89, 90, 91] (by decide +kernel) (by decide +kernel)
set_option maxRecDepth 20000 in
theorem gX11_judge_X11_skipped : GoodIn wsX11_judge (wsV RX11 312 RX11 yX11_skipped wsX11_skipped) := goodIn_app (goodIn_of _ (by decide +kernel)) ggX11_judge_X11_skipped
set_option maxRecDepth 20000 in
theorem ggX11_judge_X11_isCell : GoodIn wsX11_judge wsX11_isCell := goodIn_r _ [51, 52, 6, 7, 8, 9] (by decide +kernel) (by decide +kernel)
set_option maxRecDepth 20000 in
theorem gX11_judge_X11_isCell : GoodIn wsX11_judge (va_wsS RX11 196 yX11_isCell wsX11_isCell) := goodIn_app (goodIn_of _ (by decide +kernel)) ggX11_judge_X11_isCell
set_option maxRecDepth 20000 in
theorem ggX11_judge_X11_isOn : GoodIn wsX11_judge wsX11_isOn := goodIn_r _ [25] (by decide +kernel) (by decide +kernel)
set_option maxRecDepth 20000 in
theorem gX11_judge_X11_isOn : GoodIn wsX11_judge (va_wsS RX11 117 yX11_isOn wsX11_isOn) := goodIn_app (goodIn_of _ (by decide +kernel)) ggX11_judge_X11_isOn
set_option maxRecDepth 20000 in
theorem ggX11_judge_X11_isOpen : GoodIn wsX11_judge wsX11_isOpen := goodIn_r _ [36, 37, 38, 39, 40, 53, 54, 55, 56, 57, 58, 59, 60, 61, 62, 63, 64, 65, 66, 67, 68, 69, 70, 71, 72, 73, 74, 75, 76, 77, 78, 79, 80, 81, 82, 83, 84, 85, 86, 87, 88, 89, 90, 91] (by decide +kernel) (by decide +kernel)
set_option maxRecDepth 20000 in
theorem gX11_judge_X11_isOpen : GoodIn wsX11_judge (wsV RX11 113 RX11 yX11_isOpen wsX11_isOpen) := goodIn_app (goodIn_of _ (by decide +kernel)) ggX11_judge_X11_isOpen
set_option maxRecDepth 20000 in
theorem ggX11_seeds_X11_in : GoodIn wsX11_seeds wsX11_in := goodIn_r _ [11] (by decide +kernel) (by decide +kernel)
set_option maxRecDepth 20000 in
theorem gX11_seeds_X11_in : GoodIn wsX11_seeds (va_wsS RX11 92 yX11_in wsX11_in) := goodIn_app (goodIn_of _ (by decide +kernel)) ggX11_seeds_X11_in
set_option maxRecDepth 20000 in
theorem ggX11_seeds_X11_areBoth : GoodIn wsX11_seeds wsX11_areBoth := goodIn_r _ [15, 4, 5, 49, 50, 51, 52, 53, 54, 55, 56, 57, 58, 59, 60, 61, 62, 63, 64, 65, 66, 67, 68, 69, 70, 71, 72, 73, 74, 75, 76, 77, 78, 79, 80, 81, 82, 83, 84, 85, 86, 87] (by decide +kernel) (by decide +kernel)
set_option maxRecDepth 20000 in
theorem gX11_seeds_X11_areBoth : GoodIn wsX11_seeds (wsV RX11 243 RX11 yX11_areBoth wsX11_areBoth) := goodIn_app (goodIn_of _ (by decide +kernel)) ggX11_seeds_X11_areBoth
set_option maxRecDepth 20000 in
theorem ggX11_seeds_X11_drawBelow : GoodIn wsX11_seeds wsX11_drawBelow := goodIn_r _ [19, 3, 20, 21, 22, 49, 50, 51, 52, 53, 54, 55, 56, 57, 58, 59, 60, 61, 62, 63, 64, 65, 66, 67, 68, 69, 70, 71, 72, 73, 74, 75, 76, 77, 78, 79, 80, 81, 82, 83, 84, 85, 86, 87] (by decide +kernel) (by decide +kernel)
set_option maxRecDepth 20000 in
theorem gX11_seeds_X11_drawBelow : GoodIn wsX11_seeds (wsV RX11 321 RX11 yX11_drawBelow wsX11_drawBelow) := goodIn_app (goodIn_of _ (by decide +kernel)) ggX11_seeds_X11_drawBelow
set_option maxRecDepth 20000 in
theorem ggX11_seeds_X11_goneTo : GoodIn wsX11_seeds wsX11_goneTo := goodIn_r _ [26, 27, 28, 10, 29, 30, 31, 32, 33, 34, 35, 36, 37, 49, 50, 51, 52, 53, 54, 55, 56, 57, 58, 59, 60, 61, 62, 63, 64, 65, 66, 67, 68, 69, 70, 71, 72, 73, 74, 75, 76, 77, 78, 79, 80, 81, 82, 83, 84, 85, 86, 87] (by decide +kernel) (by decide +kernel)
set_option maxRecDepth 20000 in
theorem gX11_seeds_X11_goneTo : GoodIn wsX11_seeds (wsV RX11 121 RX11 yX11_goneTo wsX11_goneTo) := goodIn_app (goodIn_of _ (by decide +kernel)) ggX11_seeds_X11_goneTo
set_option maxRecDepth 20000 in
theorem ggX11_seeds_X11_farOf : GoodIn wsX11_seeds wsX11_farOf := goodIn_r _ [41, 42, 43, 10, 44, 45, 46, 47, 48, 35, 37, 49, 50, 51, 52, 53, 54, 55, 56, 57, 58, 59, 60, 61, 62, 63, 64, 65, 66, 67, 68, 69, 70, 71, 72, 73, 74, 75, 76, 77, 78, 79, 80, 81, 82, 83, 84, 85, 86, 87] (by decide +kernel) (by decide +kernel)
set_option maxRecDepth 20000 in
theorem gX11_seeds_X11_farOf : GoodIn wsX11_seeds (wsV RX11 106 RX11 yX11_farOf wsX11_farOf) := goodIn_app (goodIn_of _ (by decide +kernel)) ggX11_seeds_X11_farOf
set_option maxRecDepth 20000 in
theorem ggX11_count_X11_openCells : GoodIn wsX11_count wsX11_openCells := goodIn_r _ [14, 15, 16, 17, 13, 18, 19, 20, 9, 21, 25, 26, 27, 28, 29, 30, 31, 32, 33, 34, 35, 36, 37, 38, 39, 40, 41, 42, 43, 44, 45, 46, 47, 48, 49, 50, 51, 52, 53, 54, 55, 56, 57, 58, 59, 60, 61, 62, 63] (by decide +kernel) (by decide +kernel)
set_option maxRecDepth 20000 in
theorem gX11_count_X11_openCells : GoodIn wsX11_count (wsV RX11 214 RX11 yX11_openCells wsX11_openCells) := goodIn_app (goodIn_of _ (by decide +kernel)) ggX11_count_X11_openCells
set_option maxRecDepth 20000 in
theorem ggX11_count_X11_onesOf : GoodIn wsX11_count wsX11_onesOf := goodIn_r _ [24] (by decide +kernel) (by decide +kernel)
set_option maxRecDepth 20000 in
theorem gX11_count_X11_onesOf : GoodIn wsX11_count (va_wsS RX11 239 yX11_onesOf wsX11_onesOf) := goodIn_app (goodIn_of _ (by decide +kernel)) ggX11_count_X11_onesOf
set_option maxRecDepth 20000 in
theorem ggX11_keep_X11_in : GoodIn wsX11_keep wsX11_in := goodIn_r _ [10] (by decide +kernel) (by decide +kernel)
set_option maxRecDepth 20000 in
theorem gX11_keep_X11_in : GoodIn wsX11_keep (va_wsS RX11 92 yX11_in wsX11_in) := goodIn_app (goodIn_of _ (by decide +kernel)) ggX11_keep_X11_in
set_option maxRecDepth 20000 in
theorem ggX11_wrongRow_X11_in : GoodIn wsX11_wrongRow wsX11_in := goodIn_r _ [6] (by decide +kernel) (by decide +kernel)
set_option maxRecDepth 20000 in
theorem gX11_wrongRow_X11_in : GoodIn wsX11_wrongRow (va_wsS RX11 92 yX11_in wsX11_in) := goodIn_app (goodIn_of _ (by decide +kernel)) ggX11_wrongRow_X11_in
set_option maxRecDepth 20000 in
theorem ggX11_row_X11_in : GoodIn wsX11_row wsX11_in := goodIn_r _ [11] (by decide +kernel) (by decide +kernel)
set_option maxRecDepth 20000 in
theorem gX11_row_X11_in : GoodIn wsX11_row (va_wsS RX11 92 yX11_in wsX11_in) := goodIn_app (goodIn_of _ (by decide +kernel)) ggX11_row_X11_in
set_option maxRecDepth 20000 in
theorem ggX11_put_X11_wrongRow : GoodIn wsX11_put wsX11_wrongRow := goodIn_r _ [9, 10, 11, 12, 13, 8, 14, 18, 19, 20, 21, 22, 23, 24, 25, 26, 27, 28, 29, 30, 31, 32, 33, 34, 35, 36, 37, 38, 39, 40, 41, 42, 43, 44, 45, 46, 47, 48, 49, 50, 51, 52, 53, 54, 55, 56] (by decide +kernel) (by decide +kernel)
set_option maxRecDepth 20000 in
theorem gX11_put_X11_wrongRow : GoodIn wsX11_put (wsV RX11 168 RX11 yX11_wrongRow wsX11_wrongRow) := goodIn_app (goodIn_of _ (by decide +kernel)) ggX11_put_X11_wrongRow
set_option maxRecDepth 20000 in
theorem ggX11_put_X11_in : GoodIn wsX11_put wsX11_in := goodIn_r _ [14] (by decide +kernel) (by decide +kernel)
set_option maxRecDepth 20000 in
theorem gX11_put_X11_in : GoodIn wsX11_put (va_wsS RX11 92 yX11_in wsX11_in) := goodIn_app (goodIn_of _ (by decide +kernel)) ggX11_put_X11_in
set_option maxRecDepth 20000 in
theorem ggX11_put_X11_narrowed : GoodIn wsX11_put wsX11_narrowed := goodIn_r _ [17] (by decide +kernel) (by decide +kernel)
set_option maxRecDepth 20000 in
theorem gX11_put_X11_narrowed : GoodIn wsX11_put (va_wsS RX11 324 yX11_narrowed wsX11_narrowed) := goodIn_app (goodIn_of _ (by decide +kernel)) ggX11_put_X11_narrowed
set_option maxRecDepth 20000 in
theorem ggX11_element_X11_wrongRow : GoodIn wsX11_element wsX11_wrongRow := goodIn_r _ [8, 9, 10, 11, 12, 7, 13, 14, 15, 16, 17, 18, 19, 20, 21, 22, 23, 24, 25, 26, 27, 28, 29, 30, 31, 32, 33, 34, 35, 36, 37, 38, 39, 40, 41, 42, 43, 44, 45, 46, 47, 48, 49, 50, 51, 52] (by decide +kernel) (by decide +kernel)
set_option maxRecDepth 20000 in
theorem gX11_element_X11_wrongRow : GoodIn wsX11_element (wsV RX11 168 RX11 yX11_wrongRow wsX11_wrongRow) := goodIn_app (goodIn_of _ (by decide +kernel)) ggX11_element_X11_wrongRow
set_option maxRecDepth 20000 in
theorem ggX11_element_X11_in : GoodIn wsX11_element wsX11_in := goodIn_r _ [13] (by decide +kernel) (by decide +kernel)
set_option maxRecDepth 20000 in
theorem gX11_element_X11_in : GoodIn wsX11_element (va_wsS RX11 92 yX11_in wsX11_in) := goodIn_app (goodIn_of _ (by decide +kernel)) ggX11_element_X11_in
set_option maxRecDepth 20000 in
theorem ggX11_copy_X11_in : GoodIn wsX11_copy wsX11_in := goodIn_r _ [11] (by decide +kernel) (by decide +kernel)
set_option maxRecDepth 20000 in
theorem gX11_copy_X11_in : GoodIn wsX11_copy (va_wsS RX11 92 yX11_in wsX11_in) := goodIn_app (goodIn_of _ (by decide +kernel)) ggX11_copy_X11_in
set_option maxRecDepth 20000 in
theorem ggX11_cost_X11_wrongKept : GoodIn wsX11_cost wsX11_wrongKept := goodIn_r _ [8, 9, 10, 11, 12, 7, 13, 17, 18, 19, 20, 21, 22, 23, 24, 25, 26, 27, 28, 29, 30, 31, 32, 33, 34, 35, 36, 37, 38, 39, 40, 41, 42, 43, 44, 45, 46, 47, 48, 49, 50, 51, 52, 53, 54, 55] (by decide +kernel) (by decide +kernel)
set_option maxRecDepth 20000 in
theorem gX11_cost_X11_wrongKept : GoodIn wsX11_cost (wsV RX11 205 RX11 yX11_wrongKept wsX11_wrongKept) := goodIn_app (goodIn_of _ (by decide +kernel)) ggX11_cost_X11_wrongKept
set_option maxRecDepth 20000 in
theorem ggX11_cost_X11_costOf : GoodIn wsX11_cost wsX11_costOf := goodIn_r _ [16] (by decide +kernel) (by decide +kernel)
set_option maxRecDepth 20000 in
theorem gX11_cost_X11_costOf : GoodIn wsX11_cost (va_wsS RX11 328 yX11_costOf wsX11_costOf) := goodIn_app (goodIn_of _ (by decide +kernel)) ggX11_cost_X11_costOf
set_option maxRecDepth 20000 in
theorem ggX11_toss_X11_wrongKept : GoodIn wsX11_toss wsX11_wrongKept := goodIn_r _ [8, 9, 10, 11, 12, 7, 13, 17, 18, 19, 20, 21, 22, 23, 24, 25, 26, 27, 28, 29, 30, 31, 32, 33, 34, 35, 36, 37, 38, 39, 40, 41, 42, 43, 44, 45, 46, 47, 48, 49, 50, 51, 52, 53, 54, 55] (by decide +kernel) (by decide +kernel)
set_option maxRecDepth 20000 in
theorem gX11_toss_X11_wrongKept : GoodIn wsX11_toss (wsV RX11 205 RX11 yX11_wrongKept wsX11_wrongKept) := goodIn_app (goodIn_of _ (by decide +kernel)) ggX11_toss_X11_wrongKept
set_option maxRecDepth 20000 in
theorem ggX11_toss_X11_costOf : GoodIn wsX11_toss wsX11_costOf := goodIn_r _ [16] (by decide +kernel) (by decide +kernel)
set_option maxRecDepth 20000 in
theorem gX11_toss_X11_costOf : GoodIn wsX11_toss (va_wsS RX11 328 yX11_costOf wsX11_costOf) := goodIn_app (goodIn_of _ (by decide +kernel)) ggX11_toss_X11_costOf
set_option maxRecDepth 20000 in
theorem ggL_element_X10_element : GoodIn wsL_element wsX10_element := goodIn_ca (goodIn_ca (goodIn_r _ [7, 8, 9, 10, 11, 12, 13, 14, 6, 15, 16, 17, 18, 19, 20, 21, 22, 23, 24, 25, 26, 27, 28, 29, 30, 31, 32, 33, 34, 35, 36, 37, 38, 39, 40, 41, 42, 43, 44, 45, 46, 47] (by decide +kernel) (by decide +kernel)) (goodIn_sub (fun _ h => List.mem_cons_of_mem _ (List.mem_append_left _ (List.mem_append_right _ h))) (by decide +kernel))) (goodIn_sub (fun _ h => List.mem_cons_of_mem _ (List.mem_append_right _ h)) (by decide +kernel))
set_option maxRecDepth 20000 in
theorem gL_element_X10_element : GoodIn wsL_element (wsV RL 7 RX10 yX10_element wsX10_element) := goodIn_app (goodIn_of _ (by decide +kernel)) ggL_element_X10_element
set_option maxRecDepth 20000 in
theorem ggL_law_X10_init : GoodIn wsL_law wsX10_init := goodIn_r _ [9, 10, 11, 12, 13, 14, 15, 16, 17, 18, 19, 20, 21, 22, 23, 24, 25, 26, 27, 28, 29, 30, 31, 32, 33, 34, 35, 36, 37, 38, 39, 40, 41, 42, 43, 44, 45, 46, 47, 48, 49, 50, 51, 52, 53, 54, 6, 55, 56, 57, 58, 59, 60, 61, 62, 63, 64, 65, 66, 67, 68, 69, 70, 71, 72, 73, 74, 75, 76, 77, 78, 79, 80, 1222, 1223, 1224, 1225, 1226, 1227, 1228, 1229, 1230, 1231, 1174, 1175, 1176, 1177, 1178, 1179, 1180, 1181, 1182, 1232, 1233, 1234, 1235, 1236, 1237, 1238, 1239, 1240, 1241, 1242, 1243, 1244, 1245, 1246, 1247, 1248, 1249, 1250] (by decide +kernel) (by decide +kernel)
set_option maxRecDepth 20000 in
theorem gL_law_X10_init : GoodIn wsL_law (wsX10_init) := ggL_law_X10_init
set_option maxRecDepth 20000 in
theorem ggL_law_X11_init : GoodIn wsL_law wsX11_init := goodIn_r _ [83, 84, 11, 12, 39, 85, 86, 87, 88, 89, 90, 91, 92, 93, 94, 95, 6, 96, 97, 98, 99, 100, 101, 102, 103, 104, 105, 106, 107, 108, 109, 110, 1183, 1184, 1185, 1186, 1187, 1188, 1189, 1190, 1191, 1192, 1193, 1194, 1195, 1196, 1197, 1198, 1199, 1200, 1201, 1202, 1203, 1204, 1205, 1206, 1207, 1208, 1209, 1210, 1211, 1212, 1213, 1214, 1215, 1216, 1217, 1218, 1219, 1220, 1221] (by decide +kernel) (by decide +kernel)
set_option maxRecDepth 20000 in
theorem gL_law_X11_init : GoodIn wsL_law (wsX11_init) := ggL_law_X11_init
set_option maxRecDepth 20000 in
theorem ggL_law_X10_land : GoodIn wsL_law wsX10_land := goodIn_r _ [114, 115, 18, 16, 116, 117, 118, 2, 119, 120, 121, 122, 123, 124, 125, 126, 127, 128, 129, 130, 131, 35, 34, 132, 133, 134, 135, 136, 137, 138, 139, 140, 141, 142, 33, 143, 79, 80, 144, 145, 146, 147, 148, 149, 15, 150, 40, 41, 42, 43, 44, 45, 46, 47, 48, 49, 151, 152, 153, 154, 155, 156, 157, 158, 159, 160, 161, 162, 163, 164, 165, 166, 167, 168, 169, 170, 171, 172, 173, 174, 175, 176, 177, 178, 179, 180, 181, 182, 183, 184, 185, 186, 187, 188, 189, 190, 191, 192, 193, 194, 195, 196, 197, 198, 199, 200, 201, 202, 203, 204, 205, 206, 207, 208, 209, 210, 211, 212, 213, 214, 215, 216, 217, 218, 219, 220, 221, 222, 223, 224, 225, 226, 227, 228, 229, 230, 231, 232, 233, 234, 235, 236, 237, 238, 239, 240, 241, 242, 1245, 1246, 1247, 1248, 1249, 1250, 1174, 1175, 1176, 1177, 1178, 1179, 1180, 1181, 1182, 1222, 1223, 1224, 1225, 1226, 1227, 1228, 1229, 1230, 1231] (by decide +kernel) (by decide +kernel)
set_option maxRecDepth 20000 in
theorem gL_law_X10_land : GoodIn wsL_law (wsV RL 21 RX10 yX10_land wsX10_land) := goodIn_app (goodIn_of _ (by decide +kernel)) ggL_law_X10_land
set_option maxRecDepth 20000 in
theorem ggL_law_X11_land : GoodIn wsL_law wsX11_land := goodIn_r _ [246, 110, 94, 247, 248, 249, 250, 95, 101, 98, 251, 252, 253, 5, 254, 255, 91, 256, 257, 258, 259, 260, 261, 262, 99, 100, 263, 264, 265, 266, 96, 267, 268, 269, 270, 271, 272, 273, 274, 275, 276, 277, 278, 279, 280, 281, 282, 283, 87, 88, 89, 90, 284, 285, 286, 85, 86, 287, 288, 289, 290, 291, 292, 293, 294, 295, 296, 297, 298, 299, 300, 301, 302, 303, 304, 305, 306, 307, 308, 309, 97, 310, 311, 312, 313, 314, 315, 316, 317, 318, 319, 320, 321, 322, 323, 324, 1183, 1184, 1185, 1186, 1187, 1188, 1189, 1190, 1191, 1192, 1193, 1194, 1195, 1196, 1197, 1198, 1199, 1200, 1201, 1202, 1203, 1204, 1205, 1206, 1207, 1208, 1209, 1210, 1211, 1212, 1213, 1214, 1215, 1216, 1217, 1218, 1219, 1220, 1221] (by decide +kernel) (by decide +kernel)
set_option maxRecDepth 20000 in
theorem gL_law_X11_land : GoodIn wsL_law (wsV RL 25 RX11 yX11_land wsX11_land) := goodIn_app (goodIn_of _ (by decide +kernel)) ggL_law_X11_land
set_option maxRecDepth 20000 in
theorem ggL_law_X10_ground : GoodIn wsL_law wsX10_ground := goodIn_r _ [328, 16, 329, 170, 2, 171, 172, 330, 331, 332, 15, 333, 40, 334, 335, 336, 337, 41, 338, 234, 235, 236, 237, 238, 168, 239, 339, 181, 182, 183, 42, 184, 185, 186, 340, 341, 342, 343, 344, 345, 346, 1174, 1175, 1176, 1177, 1178, 1179, 1180, 1181, 1182, 1222, 1223, 1224, 1225, 1226, 1227, 1228, 1229, 1230, 1231] (by decide +kernel) (by decide +kernel)
set_option maxRecDepth 20000 in
theorem gL_law_X10_ground : GoodIn wsL_law (wsV RL 26 RX10 yX10_ground wsX10_ground) := goodIn_app (goodIn_of _ (by decide +kernel)) ggL_law_X10_ground
set_option maxRecDepth 20000 in
theorem ggL_law_X11_ground : GoodIn wsL_law wsX11_ground := goodIn_r _ [350, 110, 85, 86, 351, 352, 5, 353, 354, 256, 257, 258, 321, 322, 323, 324, 306, 307, 308, 309, 97, 283, 355, 356, 357, 358, 1183, 1184, 1185, 1186, 1187, 1188, 1189, 1190, 1191, 1192, 1193, 1194, 1195, 1196, 1197, 1198, 1199, 1200, 1201, 1202, 1203, 1204, 1205, 1206, 1207, 1208, 1209, 1210, 1211, 1212, 1213, 1214, 1215, 1216, 1217, 1218, 1219, 1220, 1221] (by decide +kernel) (by decide +kernel)
set_option maxRecDepth 20000 in
theorem gL_law_X11_ground : GoodIn wsL_law (wsV RL 30 RX11 yX11_ground wsX11_ground) := goodIn_app (goodIn_of _ (by decide +kernel)) ggL_law_X11_ground
set_option maxRecDepth 20000 in
theorem ggL_law_X10_lays : GoodIn wsL_law wsX10_lays := goodIn_r _ [362, 16, 363, 364, 329, 170, 2, 171, 172, 365, 366, 367, 368, 120, 121, 122, 123, 124, 125, 126, 127, 128, 129, 130, 131, 35, 34, 330, 331, 332, 15, 333, 40, 369, 174, 175, 176, 41, 1174, 1175, 1176, 1177, 1178, 1179, 1180, 1181, 1182, 1245, 1246, 1247, 1248, 1249, 1250, 1222, 1223, 1224, 1225, 1226, 1227, 1228, 1229, 1230, 1231] (by decide +kernel) (by decide +kernel)
set_option maxRecDepth 20000 in
theorem gL_law_X10_lays : GoodIn wsL_law (wsV RL 31 RX10 yX10_lays wsX10_lays) := goodIn_app (goodIn_of _ (by decide +kernel)) ggL_law_X10_lays
set_option maxRecDepth 20000 in
theorem ggL_law_X11_lays : GoodIn wsL_law wsX11_lays := goodIn_r _ [373, 110, 85, 92, 86, 93, 351, 352, 5, 353, 354, 256, 257, 258, 374, 375, 376, 377, 255, 91, 1183, 1184, 1185, 1186, 1187, 1188, 1189, 1190, 1191, 1192, 1193, 1194, 1195, 1196, 1197, 1198, 1199, 1200, 1201, 1202, 1203, 1204, 1205, 1206, 1207, 1208, 1209, 1210, 1211, 1212, 1213, 1214, 1215, 1216, 1217, 1218, 1219, 1220, 1221] (by decide +kernel) (by decide +kernel)
set_option maxRecDepth 20000 in
theorem gL_law_X11_lays : GoodIn wsL_law (wsV RL 34 RX11 yX11_lays wsX11_lays) := goodIn_app (goodIn_of _ (by decide +kernel)) ggL_law_X11_lays
set_option maxRecDepth 20000 in
theorem ggL_law_X10_stands : GoodIn wsL_law wsX10_stands := goodIn_r _ [381, 16, 382, 383, 384, 202, 2, 203, 329, 170, 171, 172, 339, 181, 182, 15, 183, 40, 41, 42, 184, 185, 168, 186, 385, 188, 189, 190, 45, 46, 1174, 1175, 1176, 1177, 1178, 1179, 1180, 1181, 1182, 1222, 1223, 1224, 1225, 1226, 1227, 1228, 1229, 1230, 1231] (by decide +kernel) (by decide +kernel)
set_option maxRecDepth 20000 in
theorem gL_law_X10_stands : GoodIn wsL_law (wsV RL 35 RX10 yX10_stands wsX10_stands) := goodIn_app (goodIn_of _ (by decide +kernel)) ggL_law_X10_stands
set_option maxRecDepth 20000 in
theorem ggL_law_X11_stands : GoodIn wsL_law wsX11_stands := goodIn_r _ [389, 110, 89, 90, 256, 257, 5, 258, 351, 352, 353, 354, 306, 307, 308, 309, 97, 85, 283, 86, 1183, 1184, 1185, 1186, 1187, 1188, 1189, 1190, 1191, 1192, 1193, 1194, 1195, 1196, 1197, 1198, 1199, 1200, 1201, 1202, 1203, 1204, 1205, 1206, 1207, 1208, 1209, 1210, 1211, 1212, 1213, 1214, 1215, 1216, 1217, 1218, 1219, 1220, 1221] (by decide +kernel) (by decide +kernel)
set_option maxRecDepth 20000 in
theorem gL_law_X11_stands : GoodIn wsL_law (wsV RL 38 RX11 yX11_stands wsX11_stands) := goodIn_app (goodIn_of _ (by decide +kernel)) ggL_law_X11_stands
set_option maxRecDepth 20000 in
theorem ggL_law_X10_set : GoodIn wsL_law wsX10_set := goodIn_r _ [393, 16, 394, 395, 396, 397, 196, 2, 197, 384, 202, 203, 1174, 1175, 1176, 1177, 1178, 1179, 1180, 1181, 1182, 1222, 1223, 1224, 1225, 1226, 1227, 1228, 1229, 1230, 1231] (by decide +kernel) (by decide +kernel)
set_option maxRecDepth 20000 in
theorem gL_law_X10_set : GoodIn wsL_law (wsV RL 39 RX10 yX10_set wsX10_set) := goodIn_app (goodIn_of _ (by decide +kernel)) ggL_law_X10_set
set_option maxRecDepth 20000 in
theorem ggL_law_X11_set : GoodIn wsL_law wsX11_set := goodIn_r _ [401, 110, 402, 403, 87, 88, 283, 256, 257, 5, 258, 1183, 1184, 1185, 1186, 1187, 1188, 1189, 1190, 1191, 1192, 1193, 1194, 1195, 1196, 1197, 1198, 1199, 1200, 1201, 1202, 1203, 1204, 1205, 1206, 1207, 1208, 1209, 1210, 1211, 1212, 1213, 1214, 1215, 1216, 1217, 1218, 1219, 1220, 1221] (by decide +kernel) (by decide +kernel)
set_option maxRecDepth 20000 in
theorem gL_law_X11_set : GoodIn wsL_law (wsV RL 42 RX11 yX11_set wsX11_set) := goodIn_app (goodIn_of _ (by decide +kernel)) ggL_law_X11_set
set_option maxRecDepth 20000 in
theorem ggL_law_X10_go : GoodIn wsL_law wsX10_go := goodIn_r _ [407, 16, 382, 383, 408, 409, 2, 410, 411, 205, 206, 15, 207, 45, 46, 47, 208, 209, 210, 211, 212, 213, 214, 215, 170, 171, 172, 216, 181, 182, 183, 40, 41, 42, 184, 185, 168, 186, 217, 218, 219, 220, 43, 48, 44, 49, 221, 222, 223, 224, 225, 226, 227, 228, 229, 230, 231, 232, 233, 234, 235, 236, 237, 238, 239, 412, 1174, 1175, 1176, 1177, 1178, 1179, 1180, 1181, 1182, 1222, 1223, 1224, 1225, 1226, 1227, 1228, 1229, 1230, 1231] (by decide +kernel) (by decide +kernel)
set_option maxRecDepth 20000 in
theorem gL_law_X10_go : GoodIn wsL_law (wsV RL 43 RX10 yX10_go wsX10_go) := goodIn_app (goodIn_of _ (by decide +kernel)) ggL_law_X10_go
set_option maxRecDepth 20000 in
theorem ggL_law_X11_go : GoodIn wsL_law wsX11_go := goodIn_r _ [416, 110, 417, 89, 90, 256, 257, 5, 258, 295, 296, 297, 298, 284, 299, 300, 301, 302, 303, 304, 305, 306, 307, 308, 309, 97, 85, 283, 86, 310, 311, 312, 313, 285, 87, 286, 88, 314, 315, 316, 317, 318, 319, 320, 321, 322, 323, 324, 1183, 1184, 1185, 1186, 1187, 1188, 1189, 1190, 1191, 1192, 1193, 1194, 1195, 1196, 1197, 1198, 1199, 1200, 1201, 1202, 1203, 1204, 1205, 1206, 1207, 1208, 1209, 1210, 1211, 1212, 1213, 1214, 1215, 1216, 1217, 1218, 1219, 1220, 1221] (by decide +kernel) (by decide +kernel)
set_option maxRecDepth 20000 in
theorem gL_law_X11_go : GoodIn wsL_law (wsV RL 46 RX11 yX11_go wsX11_go) := goodIn_app (goodIn_of _ (by decide +kernel)) ggL_law_X11_go
set_option maxRecDepth 20000 in
theorem ggL_law_X10_far : GoodIn wsL_law wsX10_far := goodIn_r _ [421, 16, 329, 170, 2, 171, 172, 412, 222, 223, 15, 224, 225, 226, 227, 228, 229, 230, 214, 231, 232, 233, 234, 235, 236, 40, 41, 237, 238, 168, 239, 1174, 1175, 1176, 1177, 1178, 1179, 1180, 1181, 1182, 1222, 1223, 1224, 1225, 1226, 1227, 1228, 1229, 1230, 1231] (by decide +kernel) (by decide +kernel)
set_option maxRecDepth 20000 in
theorem gL_law_X10_far : GoodIn wsL_law (wsV RL 47 RX10 yX10_far wsX10_far) := goodIn_app (goodIn_of _ (by decide +kernel)) ggL_law_X10_far
set_option maxRecDepth 20000 in
theorem ggL_law_X11_far : GoodIn wsL_law wsX11_far := goodIn_r _ [425, 110, 351, 352, 5, 353, 354, 256, 257, 258, 314, 315, 316, 317, 318, 319, 320, 321, 322, 323, 324, 85, 86, 1183, 1184, 1185, 1186, 1187, 1188, 1189, 1190, 1191, 1192, 1193, 1194, 1195, 1196, 1197, 1198, 1199, 1200, 1201, 1202, 1203, 1204, 1205, 1206, 1207, 1208, 1209, 1210, 1211, 1212, 1213, 1214, 1215, 1216, 1217, 1218, 1219, 1220, 1221] (by decide +kernel) (by decide +kernel)
set_option maxRecDepth 20000 in
theorem gL_law_X11_far : GoodIn wsL_law (wsV RL 50 RX11 yX11_far wsX11_far) := goodIn_app (goodIn_of _ (by decide +kernel)) ggL_law_X11_far
set_option maxRecDepth 20000 in
theorem ggL_law_X10_steps : GoodIn wsL_law wsX10_steps := goodIn_r _ [429, 16, 329, 170, 2, 171, 172, 430, 431, 432, 15, 433, 216, 181, 182, 183, 40, 41, 42, 184, 185, 168, 186, 434, 435, 214, 436, 437, 438, 439, 440, 441, 442, 443, 444, 445, 446, 447, 448, 449, 1174, 1175, 1176, 1177, 1178, 1179, 1180, 1181, 1182, 1222, 1223, 1224, 1225, 1226, 1227, 1228, 1229, 1230, 1231] (by decide +kernel) (by decide +kernel)
set_option maxRecDepth 20000 in
theorem gL_law_X10_steps : GoodIn wsL_law (wsV RL 51 RX10 yX10_steps wsX10_steps) := goodIn_app (goodIn_of _ (by decide +kernel)) ggL_law_X10_steps
set_option maxRecDepth 20000 in
theorem ggL_law_X11_steps : GoodIn wsL_law wsX11_steps := goodIn_r _ [453, 110, 103, 351, 352, 5, 353, 354, 256, 257, 258, 454, 455, 456, 457, 458, 459, 460, 461, 306, 307, 308, 309, 97, 85, 283, 86, 462, 463, 464, 465, 466, 467, 468, 299, 300, 301, 302, 303, 304, 305, 1183, 1184, 1185, 1186, 1187, 1188, 1189, 1190, 1191, 1192, 1193, 1194, 1195, 1196, 1197, 1198, 1199, 1200, 1201, 1202, 1203, 1204, 1205, 1206, 1207, 1208, 1209, 1210, 1211, 1212, 1213, 1214, 1215, 1216, 1217, 1218, 1219, 1220, 1221] (by decide +kernel) (by decide +kernel)
set_option maxRecDepth 20000 in
theorem gL_law_X11_steps : GoodIn wsL_law (wsV RL 54 RX11 yX11_steps wsX11_steps) := goodIn_app (goodIn_of _ (by decide +kernel)) ggL_law_X11_steps
set_option maxRecDepth 20000 in
theorem ggL_law_X10_pairs : GoodIn wsL_law wsX10_pairs := goodIn_r _ [472, 22, 16, 473, 474, 475, 21, 476, 53, 477, 226, 227, 228, 54, 478, 479, 480, 234, 235, 15, 236, 40, 41, 170, 2, 171, 172, 237, 238, 168, 239, 481, 230, 214, 231, 232, 482, 483, 484, 485, 55, 486, 431, 432, 433, 216, 181, 182, 183, 42, 184, 185, 186, 434, 435, 436, 487, 488, 489, 490, 56, 491, 442, 443, 440, 492, 493, 494, 495, 496, 497, 498, 499, 500, 501, 502, 503, 504, 505, 506, 507, 508, 509, 1174, 1175, 1176, 1177, 1178, 1179, 1180, 1181, 1182, 1232, 1233, 1234, 1235, 1236, 1237, 1238, 1239, 1240, 1222, 1223, 1224, 1225, 1226, 1227, 1228, 1229, 1230, 1231] (by decide +kernel) (by decide +kernel)
set_option maxRecDepth 20000 in
theorem gL_law_X10_pairs : GoodIn wsL_law (wsV RL 55 RX10 yX10_pairs wsX10_pairs) := goodIn_app (goodIn_of _ (by decide +kernel)) ggL_law_X10_pairs
set_option maxRecDepth 20000 in
theorem ggL_law_X11_pairs : GoodIn wsL_law wsX11_pairs := goodIn_r _ [513, 110, 514, 515, 516, 5, 517, 518, 519, 520, 521, 306, 307, 308, 309, 97, 85, 283, 86, 522, 523, 524, 525, 87, 88, 314, 315, 316, 317, 318, 319, 320, 321, 322, 323, 324, 1183, 1184, 1185, 1186, 1187, 1188, 1189, 1190, 1191, 1192, 1193, 1194, 1195, 1196, 1197, 1198, 1199, 1200, 1201, 1202, 1203, 1204, 1205, 1206, 1207, 1208, 1209, 1210, 1211, 1212, 1213, 1214, 1215, 1216, 1217, 1218, 1219, 1220, 1221] (by decide +kernel) (by decide +kernel)
set_option maxRecDepth 20000 in
theorem gL_law_X11_pairs : GoodIn wsL_law (wsV RL 58 RX11 yX11_pairs wsX11_pairs) := goodIn_app (goodIn_of _ (by decide +kernel)) ggL_law_X11_pairs
set_option maxRecDepth 20000 in
theorem ggL_law_X10_islands : GoodIn wsL_law wsX10_islands := goodIn_r _ [529, 16, 430, 431, 432, 15, 433, 216, 181, 182, 183, 40, 41, 42, 170, 2, 171, 172, 184, 185, 168, 186, 434, 435, 214, 436, 530, 531, 532, 533, 441, 442, 443, 440, 534, 535, 536, 537, 538, 539, 444, 445, 446, 447, 448, 449, 1174, 1175, 1176, 1177, 1178, 1179, 1180, 1181, 1182, 1222, 1223, 1224, 1225, 1226, 1227, 1228, 1229, 1230, 1231] (by decide +kernel) (by decide +kernel)
set_option maxRecDepth 20000 in
theorem gL_law_X10_islands : GoodIn wsL_law (wsV RL 59 RX10 yX10_islands wsX10_islands) := goodIn_app (goodIn_of _ (by decide +kernel)) ggL_law_X10_islands
set_option maxRecDepth 20000 in
theorem ggL_law_X11_islands : GoodIn wsL_law wsX11_islands := goodIn_r _ [543, 110, 306, 307, 308, 5, 309, 97, 85, 283, 86, 462, 463, 464, 544, 545, 546, 547, 103, 454, 455, 456, 457, 458, 459, 460, 461, 465, 466, 467, 468, 299, 300, 301, 302, 303, 304, 305, 1183, 1184, 1185, 1186, 1187, 1188, 1189, 1190, 1191, 1192, 1193, 1194, 1195, 1196, 1197, 1198, 1199, 1200, 1201, 1202, 1203, 1204, 1205, 1206, 1207, 1208, 1209, 1210, 1211, 1212, 1213, 1214, 1215, 1216, 1217, 1218, 1219, 1220, 1221] (by decide +kernel) (by decide +kernel)
set_option maxRecDepth 20000 in
theorem gL_law_X11_islands : GoodIn wsL_law (wsV RL 63 RX11 yX11_islands wsX11_islands) := goodIn_app (goodIn_of _ (by decide +kernel)) ggL_law_X11_islands
set_option maxRecDepth 20000 in
theorem ggL_law_X10_island : GoodIn wsL_law wsX10_island := goodIn_r _ [551, 16, 329, 170, 2, 171, 172, 430, 431, 432, 15, 433, 216, 181, 182, 183, 40, 41, 42, 184, 185, 168, 186, 434, 435, 214, 436, 552, 442, 443, 440, 553, 535, 536, 537, 538, 539, 444, 445, 446, 447, 448, 449, 554, 500, 501, 502, 503, 504, 505, 1174, 1175, 1176, 1177, 1178, 1179, 1180, 1181, 1182, 1222, 1223, 1224, 1225, 1226, 1227, 1228, 1229, 1230, 1231] (by decide +kernel) (by decide +kernel)
set_option maxRecDepth 20000 in
theorem gL_law_X10_island : GoodIn wsL_law (wsV RL 64 RX10 yX10_island wsX10_island) := goodIn_app (goodIn_of _ (by decide +kernel)) ggL_law_X10_island
set_option maxRecDepth 20000 in
theorem ggL_law_X11_island : GoodIn wsL_law wsX11_island := goodIn_r _ [558, 110, 351, 352, 5, 353, 354, 256, 257, 258, 306, 307, 308, 309, 97, 85, 283, 86, 544, 545, 546, 547, 103, 454, 455, 456, 457, 458, 459, 460, 461, 462, 463, 464, 465, 466, 467, 468, 299, 300, 301, 302, 303, 304, 305, 559, 560, 561, 1183, 1184, 1185, 1186, 1187, 1188, 1189, 1190, 1191, 1192, 1193, 1194, 1195, 1196, 1197, 1198, 1199, 1200, 1201, 1202, 1203, 1204, 1205, 1206, 1207, 1208, 1209, 1210, 1211, 1212, 1213, 1214, 1215, 1216, 1217, 1218, 1219, 1220, 1221] (by decide +kernel) (by decide +kernel)
set_option maxRecDepth 20000 in
theorem gL_law_X11_island : GoodIn wsL_law (wsV RL 67 RX11 yX11_island wsX11_island) := goodIn_app (goodIn_of _ (by decide +kernel)) ggL_law_X11_island
set_option maxRecDepth 20000 in
theorem ggL_law_X10_middle : GoodIn wsL_law wsX10_middle := goodIn_r _ [565, 16, 384, 202, 2, 203, 430, 431, 432, 15, 433, 216, 181, 182, 183, 40, 41, 42, 170, 171, 172, 184, 185, 168, 186, 434, 435, 214, 436, 566, 567, 568, 569, 570, 571, 533, 441, 442, 443, 440, 534, 535, 536, 537, 538, 539, 444, 445, 446, 447, 448, 449, 572, 500, 501, 502, 503, 504, 505, 573, 574, 575, 576, 1174, 1175, 1176, 1177, 1178, 1179, 1180, 1181, 1182, 1222, 1223, 1224, 1225, 1226, 1227, 1228, 1229, 1230, 1231] (by decide +kernel) (by decide +kernel)
set_option maxRecDepth 20000 in
theorem gL_law_X10_middle : GoodIn wsL_law (wsV RL 68 RX10 yX10_middle wsX10_middle) := goodIn_app (goodIn_of _ (by decide +kernel)) ggL_law_X10_middle
set_option maxRecDepth 20000 in
theorem ggL_law_X11_middle : GoodIn wsL_law wsX11_middle := goodIn_r _ [580, 110, 103, 256, 257, 5, 258, 544, 545, 546, 547, 454, 455, 456, 457, 458, 459, 460, 461, 306, 307, 308, 309, 97, 85, 283, 86, 462, 463, 464, 465, 466, 467, 468, 299, 300, 301, 302, 303, 304, 305, 559, 560, 561, 1183, 1184, 1185, 1186, 1187, 1188, 1189, 1190, 1191, 1192, 1193, 1194, 1195, 1196, 1197, 1198, 1199, 1200, 1201, 1202, 1203, 1204, 1205, 1206, 1207, 1208, 1209, 1210, 1211, 1212, 1213, 1214, 1215, 1216, 1217, 1218, 1219, 1220, 1221] (by decide +kernel) (by decide +kernel)
set_option maxRecDepth 20000 in
theorem gL_law_X11_middle : GoodIn wsL_law (wsV RL 71 RX11 yX11_middle wsX11_middle) := goodIn_app (goodIn_of _ (by decide +kernel)) ggL_law_X11_middle
set_option maxRecDepth 20000 in
theorem ggL_law_X10_see : GoodIn wsL_law wsX10_see := goodIn_r _ [584, 22, 16, 382, 383, 585, 586, 587, 2, 588, 329, 170, 171, 172, 589, 590, 591, 15, 592, 45, 46, 473, 474, 475, 21, 476, 53, 477, 226, 227, 228, 54, 478, 479, 480, 234, 235, 236, 40, 41, 237, 238, 168, 239, 481, 230, 214, 231, 232, 482, 483, 484, 485, 55, 486, 431, 432, 433, 216, 181, 182, 183, 42, 184, 185, 186, 434, 435, 436, 487, 488, 489, 490, 56, 491, 442, 443, 440, 593, 594, 595, 596, 57, 597, 598, 599, 600, 601, 602, 603, 604, 59, 605, 606, 607, 608, 609, 610, 611, 612, 613, 614, 615, 616, 58, 617, 618, 619, 620, 621, 622, 213, 215, 623, 445, 446, 447, 448, 449, 624, 625, 626, 627, 1174, 1175, 1176, 1177, 1178, 1179, 1180, 1181, 1182, 1222, 1223, 1224, 1225, 1226, 1227, 1228, 1229, 1230, 1231, 1232, 1233, 1234, 1235, 1236, 1237, 1238, 1239, 1240] (by decide +kernel) (by decide +kernel)
set_option maxRecDepth 20000 in
theorem gL_law_X10_see : GoodIn wsL_law (wsV RL 72 RX10 yX10_see wsX10_see) := goodIn_app (goodIn_of _ (by decide +kernel)) ggL_law_X10_see
set_option maxRecDepth 20000 in
theorem ggL_law_X11_see : GoodIn wsL_law wsX11_see := goodIn_r _ [631, 110, 632, 633, 634, 5, 635, 351, 352, 353, 354, 256, 257, 258, 636, 637, 638, 639, 89, 90, 640, 641, 642, 643, 104, 644, 645, 646, 647, 105, 518, 519, 520, 521, 306, 307, 308, 309, 97, 85, 283, 86, 522, 523, 524, 525, 87, 88, 314, 315, 316, 317, 318, 319, 320, 321, 322, 323, 324, 299, 300, 301, 302, 303, 304, 305, 1183, 1184, 1185, 1186, 1187, 1188, 1189, 1190, 1191, 1192, 1193, 1194, 1195, 1196, 1197, 1198, 1199, 1200, 1201, 1202, 1203, 1204, 1205, 1206, 1207, 1208, 1209, 1210, 1211, 1212, 1213, 1214, 1215, 1216, 1217, 1218, 1219, 1220, 1221] (by decide +kernel) (by decide +kernel)
set_option maxRecDepth 20000 in
theorem gL_law_X11_see : GoodIn wsL_law (wsV RL 75 RX11 yX11_see wsX11_see) := goodIn_app (goodIn_of _ (by decide +kernel)) ggL_law_X11_see
set_option maxRecDepth 20000 in
theorem ggL_law_X10_way : GoodIn wsL_law wsX10_way := goodIn_r _ [651, 22, 16, 382, 383, 585, 586, 587, 2, 588, 329, 170, 171, 172, 589, 590, 591, 15, 592, 45, 46, 473, 474, 475, 21, 476, 53, 477, 226, 227, 228, 54, 478, 479, 480, 234, 235, 236, 40, 41, 237, 238, 168, 239, 481, 230, 214, 231, 232, 482, 483, 484, 485, 55, 486, 431, 432, 433, 216, 181, 182, 183, 42, 184, 185, 186, 434, 435, 436, 487, 488, 489, 490, 56, 491, 442, 443, 440, 593, 594, 595, 596, 57, 597, 598, 599, 600, 601, 602, 603, 604, 59, 605, 606, 607, 608, 609, 610, 611, 612, 613, 614, 615, 616, 58, 617, 618, 619, 620, 621, 622, 213, 215, 623, 445, 446, 447, 448, 449, 624, 625, 626, 627, 652, 653, 654, 655, 656, 657, 658, 659, 660, 661, 662, 663, 1174, 1175, 1176, 1177, 1178, 1179, 1180, 1181, 1182, 1222, 1223, 1224, 1225, 1226, 1227, 1228, 1229, 1230, 1231, 1232, 1233, 1234, 1235, 1236, 1237, 1238, 1239, 1240] (by decide +kernel) (by decide +kernel)
set_option maxRecDepth 20000 in
theorem gL_law_X10_way : GoodIn wsL_law (wsV RL 76 RX10 yX10_way wsX10_way) := goodIn_app (goodIn_of _ (by decide +kernel)) ggL_law_X10_way
set_option maxRecDepth 20000 in
theorem ggL_law_X11_way : GoodIn wsL_law wsX11_way := goodIn_r _ [667, 110, 89, 90, 104, 632, 633, 634, 5, 635, 351, 352, 353, 354, 256, 257, 258, 636, 637, 638, 639, 640, 641, 642, 643, 644, 645, 646, 647, 105, 518, 519, 520, 521, 306, 307, 308, 309, 97, 85, 283, 86, 522, 523, 524, 525, 87, 88, 314, 315, 316, 317, 318, 319, 320, 321, 322, 323, 324, 299, 300, 301, 302, 303, 304, 305, 1183, 1184, 1185, 1186, 1187, 1188, 1189, 1190, 1191, 1192, 1193, 1194, 1195, 1196, 1197, 1198, 1199, 1200, 1201, 1202, 1203, 1204, 1205, 1206, 1207, 1208, 1209, 1210, 1211, 1212, 1213, 1214, 1215, 1216, 1217, 1218, 1219, 1220, 1221] (by decide +kernel) (by decide +kernel)
set_option maxRecDepth 20000 in
theorem gL_law_X11_way : GoodIn wsL_law (wsV RL 80 RX11 yX11_way wsX11_way) := goodIn_app (goodIn_of _ (by decide +kernel)) ggL_law_X11_way
set_option maxRecDepth 20000 in
theorem ggL_law_X10_hinders : GoodIn wsL_law wsX10_hinders := goodIn_r _ [671, 22, 16, 382, 383, 585, 586, 587, 2, 588, 329, 170, 171, 172, 589, 590, 591, 15, 592, 45, 46, 473, 474, 475, 21, 476, 53, 477, 226, 227, 228, 54, 478, 479, 480, 234, 235, 236, 40, 41, 237, 238, 168, 239, 481, 230, 214, 231, 232, 482, 483, 484, 485, 55, 486, 431, 432, 433, 216, 181, 182, 183, 42, 184, 185, 186, 434, 435, 436, 487, 488, 489, 490, 56, 491, 442, 443, 440, 593, 594, 595, 596, 57, 597, 598, 599, 600, 601, 602, 603, 604, 59, 605, 606, 607, 608, 609, 610, 611, 612, 613, 614, 615, 616, 58, 617, 618, 619, 620, 621, 622, 213, 215, 623, 445, 446, 447, 448, 449, 624, 625, 626, 627, 430, 552, 672, 673, 1174, 1175, 1176, 1177, 1178, 1179, 1180, 1181, 1182, 1222, 1223, 1224, 1225, 1226, 1227, 1228, 1229, 1230, 1231, 1232, 1233, 1234, 1235, 1236, 1237, 1238, 1239, 1240] (by decide +kernel) (by decide +kernel)
set_option maxRecDepth 20000 in
theorem gL_law_X10_hinders : GoodIn wsL_law (wsV RL 81 RX10 yX10_hinders wsX10_hinders) := goodIn_app (goodIn_of _ (by decide +kernel)) ggL_law_X10_hinders
set_option maxRecDepth 20000 in
theorem ggL_law_X11_hinders : GoodIn wsL_law wsX11_hinders := goodIn_r _ [677, 110, 97, 632, 633, 634, 5, 635, 351, 352, 353, 354, 256, 257, 258, 636, 637, 638, 639, 89, 90, 640, 641, 642, 643, 104, 644, 645, 646, 647, 105, 518, 519, 520, 521, 306, 307, 308, 309, 85, 283, 86, 522, 523, 524, 525, 87, 88, 314, 315, 316, 317, 318, 319, 320, 321, 322, 323, 324, 299, 300, 301, 302, 303, 304, 305, 1183, 1184, 1185, 1186, 1187, 1188, 1189, 1190, 1191, 1192, 1193, 1194, 1195, 1196, 1197, 1198, 1199, 1200, 1201, 1202, 1203, 1204, 1205, 1206, 1207, 1208, 1209, 1210, 1211, 1212, 1213, 1214, 1215, 1216, 1217, 1218, 1219, 1220, 1221] (by decide +kernel) (by decide +kernel)
set_option maxRecDepth 20000 in
theorem gL_law_X11_hinders : GoodIn wsL_law (wsV RL 84 RX11 yX11_hinders wsX11_hinders) := goodIn_app (goodIn_of _ (by decide +kernel)) ggL_law_X11_hinders
set_option maxRecDepth 20000 in
theorem ggL_law_X10_needs : GoodIn wsL_law wsX10_needs := goodIn_r _ [681, 22, 16, 394, 382, 383, 585, 586, 587, 2, 588, 329, 170, 171, 172, 589, 590, 591, 15, 592, 45, 46, 473, 474, 475, 21, 476, 53, 477, 226, 227, 228, 54, 478, 479, 480, 234, 235, 236, 40, 41, 237, 238, 168, 239, 481, 230, 214, 231, 232, 482, 483, 484, 485, 55, 486, 431, 432, 433, 216, 181, 182, 183, 42, 184, 185, 186, 434, 435, 436, 487, 488, 489, 490, 56, 491, 442, 443, 440, 430, 682, 673, 593, 594, 595, 596, 57, 597, 598, 599, 600, 601, 602, 603, 604, 59, 605, 606, 607, 608, 609, 610, 611, 612, 613, 614, 615, 616, 58, 617, 618, 619, 620, 621, 622, 213, 215, 623, 445, 446, 447, 448, 449, 624, 625, 626, 627, 1174, 1175, 1176, 1177, 1178, 1179, 1180, 1181, 1182, 1222, 1223, 1224, 1225, 1226, 1227, 1228, 1229, 1230, 1231, 1232, 1233, 1234, 1235, 1236, 1237, 1238, 1239, 1240] (by decide +kernel) (by decide +kernel)
set_option maxRecDepth 20000 in
theorem gL_law_X10_needs : GoodIn wsL_law (wsV RL 85 RX10 yX10_needs wsX10_needs) := goodIn_app (goodIn_of _ (by decide +kernel)) ggL_law_X10_needs
set_option maxRecDepth 20000 in
theorem ggL_law_X11_needs : GoodIn wsL_law wsX11_needs := goodIn_r _ [686, 110, 88, 632, 633, 634, 5, 635, 351, 352, 353, 354, 256, 257, 258, 636, 637, 638, 639, 89, 90, 640, 641, 642, 643, 104, 644, 645, 646, 647, 105, 518, 519, 520, 521, 306, 307, 308, 309, 97, 85, 283, 86, 522, 523, 524, 525, 87, 314, 315, 316, 317, 318, 319, 320, 321, 322, 323, 324, 299, 300, 301, 302, 303, 304, 305, 1183, 1184, 1185, 1186, 1187, 1188, 1189, 1190, 1191, 1192, 1193, 1194, 1195, 1196, 1197, 1198, 1199, 1200, 1201, 1202, 1203, 1204, 1205, 1206, 1207, 1208, 1209, 1210, 1211, 1212, 1213, 1214, 1215, 1216, 1217, 1218, 1219, 1220, 1221] (by decide +kernel) (by decide +kernel)
set_option maxRecDepth 20000 in
theorem gL_law_X11_needs : GoodIn wsL_law (wsV RL 88 RX11 yX11_needs wsX11_needs) := goodIn_app (goodIn_of _ (by decide +kernel)) ggL_law_X11_needs
set_option maxRecDepth 20000 in
theorem ggL_law_X10_within : GoodIn wsL_law wsX10_within := goodIn_r _ [690, 16, 22, 382, 383, 589, 590, 591, 15, 592, 45, 46, 473, 474, 475, 21, 476, 53, 477, 226, 227, 228, 54, 478, 479, 480, 234, 235, 236, 40, 41, 170, 2, 171, 172, 237, 238, 168, 239, 481, 230, 214, 231, 232, 482, 483, 484, 485, 55, 486, 431, 432, 433, 216, 181, 182, 183, 42, 184, 185, 186, 434, 435, 436, 487, 488, 489, 490, 56, 491, 442, 443, 440, 691, 692, 693, 694, 57, 601, 602, 603, 604, 59, 605, 606, 607, 608, 609, 610, 611, 597, 598, 599, 600, 612, 613, 614, 615, 616, 58, 617, 618, 619, 620, 621, 622, 213, 215, 623, 445, 446, 447, 448, 449, 624, 625, 626, 627, 496, 497, 498, 499, 500, 501, 502, 503, 504, 505, 1174, 1175, 1176, 1177, 1178, 1179, 1180, 1181, 1182, 1222, 1223, 1224, 1225, 1226, 1227, 1228, 1229, 1230, 1231, 1232, 1233, 1234, 1235, 1236, 1237, 1238, 1239, 1240] (by decide +kernel) (by decide +kernel)
set_option maxRecDepth 20000 in
theorem gL_law_X10_within : GoodIn wsL_law (wsV RL 89 RX10 yX10_within wsX10_within) := goodIn_app (goodIn_of _ (by decide +kernel)) ggL_law_X10_within
set_option maxRecDepth 20000 in
theorem ggL_law_X11_within : GoodIn wsL_law wsX11_within := goodIn_r _ [698, 110, 699, 89, 90, 104, 256, 257, 5, 258, 636, 637, 638, 639, 644, 645, 646, 647, 105, 518, 519, 520, 521, 306, 307, 308, 309, 97, 85, 283, 86, 522, 523, 524, 525, 87, 88, 314, 315, 316, 317, 318, 319, 320, 321, 322, 323, 324, 299, 300, 301, 302, 303, 304, 305, 1183, 1184, 1185, 1186, 1187, 1188, 1189, 1190, 1191, 1192, 1193, 1194, 1195, 1196, 1197, 1198, 1199, 1200, 1201, 1202, 1203, 1204, 1205, 1206, 1207, 1208, 1209, 1210, 1211, 1212, 1213, 1214, 1215, 1216, 1217, 1218, 1219, 1220, 1221] (by decide +kernel) (by decide +kernel)
set_option maxRecDepth 20000 in
theorem gL_law_X11_within : GoodIn wsL_law (wsV RL 92 RX11 yX11_within wsX11_within) := goodIn_app (goodIn_of _ (by decide +kernel)) ggL_law_X11_within
set_option maxRecDepth 20000 in
theorem ggL_law_X10_ways : GoodIn wsL_law wsX10_ways := goodIn_r _ [703, 22, 16, 382, 383, 704, 705, 706, 2, 707, 589, 590, 591, 15, 592, 45, 46, 708, 709, 710, 711, 473, 474, 475, 21, 476, 53, 477, 226, 227, 228, 54, 478, 479, 480, 234, 235, 236, 40, 41, 170, 171, 172, 237, 238, 168, 239, 481, 230, 214, 231, 232, 482, 483, 484, 485, 55, 486, 431, 432, 433, 216, 181, 182, 183, 42, 184, 185, 186, 434, 435, 436, 487, 488, 489, 490, 56, 491, 442, 443, 440, 712, 713, 714, 715, 60, 609, 610, 607, 611, 597, 598, 599, 600, 716, 717, 718, 719, 61, 622, 213, 215, 720, 721, 722, 723, 724, 725, 726, 727, 1174, 1175, 1176, 1177, 1178, 1179, 1180, 1181, 1182, 1222, 1223, 1224, 1225, 1226, 1227, 1228, 1229, 1230, 1231, 1232, 1233, 1234, 1235, 1236, 1237, 1238, 1239, 1240] (by decide +kernel) (by decide +kernel)
set_option maxRecDepth 20000 in
theorem gL_law_X10_ways : GoodIn wsL_law (wsV RL 93 RX10 yX10_ways wsX10_ways) := goodIn_app (goodIn_of _ (by decide +kernel)) ggL_law_X10_ways
set_option maxRecDepth 20000 in
theorem ggL_law_X11_ways : GoodIn wsL_law wsX11_ways := goodIn_r _ [731, 110, 732, 106, 733, 734, 735, 5, 736, 737, 256, 257, 258, 636, 637, 638, 639, 89, 90, 738, 739, 740, 741, 107, 518, 519, 520, 521, 306, 307, 308, 309, 97, 85, 283, 86, 522, 523, 524, 525, 87, 88, 314, 315, 316, 317, 318, 319, 320, 321, 322, 323, 324, 299, 300, 301, 302, 303, 304, 305, 1183, 1184, 1185, 1186, 1187, 1188, 1189, 1190, 1191, 1192, 1193, 1194, 1195, 1196, 1197, 1198, 1199, 1200, 1201, 1202, 1203, 1204, 1205, 1206, 1207, 1208, 1209, 1210, 1211, 1212, 1213, 1214, 1215, 1216, 1217, 1218, 1219, 1220, 1221] (by decide +kernel) (by decide +kernel)
set_option maxRecDepth 20000 in
theorem gL_law_X11_ways : GoodIn wsL_law (wsV RL 97 RX11 yX11_ways wsX11_ways) := goodIn_app (goodIn_of _ (by decide +kernel)) ggL_law_X11_ways
set_option maxRecDepth 20000 in
theorem ggL_law_X10_rounds : GoodIn wsL_law wsX10_rounds := goodIn_r _ [745, 22, 16, 382, 383, 704, 705, 706, 2, 707, 589, 590, 591, 15, 592, 45, 46, 708, 709, 710, 711, 473, 474, 475, 21, 476, 53, 477, 226, 227, 228, 54, 478, 479, 480, 234, 235, 236, 40, 41, 170, 171, 172, 237, 238, 168, 239, 481, 230, 214, 231, 232, 482, 483, 484, 485, 55, 486, 431, 432, 433, 216, 181, 182, 183, 42, 184, 185, 186, 434, 435, 436, 487, 488, 489, 490, 56, 491, 442, 443, 440, 712, 713, 714, 715, 60, 609, 610, 607, 611, 597, 598, 599, 600, 716, 717, 718, 719, 61, 622, 213, 215, 720, 721, 722, 723, 746, 747, 748, 749, 1174, 1175, 1176, 1177, 1178, 1179, 1180, 1181, 1182, 1222, 1223, 1224, 1225, 1226, 1227, 1228, 1229, 1230, 1231, 1232, 1233, 1234, 1235, 1236, 1237, 1238, 1239, 1240] (by decide +kernel) (by decide +kernel)
set_option maxRecDepth 20000 in
theorem gL_law_X10_rounds : GoodIn wsL_law (wsV RL 98 RX10 yX10_rounds wsX10_rounds) := goodIn_app (goodIn_of _ (by decide +kernel)) ggL_law_X10_rounds
set_option maxRecDepth 20000 in
theorem ggL_law_X11_rounds : GoodIn wsL_law wsX11_rounds := goodIn_r _ [753, 110, 732, 106, 89, 90, 733, 734, 735, 5, 736, 737, 256, 257, 258, 636, 637, 638, 639, 738, 739, 740, 741, 107, 518, 519, 520, 521, 306, 307, 308, 309, 97, 85, 283, 86, 522, 523, 524, 525, 87, 88, 314, 315, 316, 317, 318, 319, 320, 321, 322, 323, 324, 299, 300, 301, 302, 303, 304, 305, 1183, 1184, 1185, 1186, 1187, 1188, 1189, 1190, 1191, 1192, 1193, 1194, 1195, 1196, 1197, 1198, 1199, 1200, 1201, 1202, 1203, 1204, 1205, 1206, 1207, 1208, 1209, 1210, 1211, 1212, 1213, 1214, 1215, 1216, 1217, 1218, 1219, 1220, 1221] (by decide +kernel) (by decide +kernel)
set_option maxRecDepth 20000 in
theorem gL_law_X11_rounds : GoodIn wsL_law (wsV RL 101 RX11 yX11_rounds wsX11_rounds) := goodIn_app (goodIn_of _ (by decide +kernel)) ggL_law_X11_rounds
set_option maxRecDepth 20000 in
theorem ggL_law_X10_late : GoodIn wsL_law wsX10_late := goodIn_r _ [757, 16, 382, 22, 758, 329, 170, 2, 171, 172, 339, 181, 182, 15, 183, 40, 41, 42, 184, 185, 168, 186, 473, 474, 475, 21, 476, 53, 477, 226, 227, 228, 54, 478, 479, 480, 234, 235, 236, 237, 238, 239, 481, 230, 214, 231, 232, 482, 483, 484, 485, 55, 486, 431, 432, 433, 216, 434, 435, 436, 487, 488, 489, 490, 56, 491, 442, 443, 440, 430, 759, 538, 539, 444, 445, 446, 447, 448, 449, 760, 209, 210, 211, 212, 213, 215, 761, 762, 763, 764, 1174, 1175, 1176, 1177, 1178, 1179, 1180, 1181, 1182, 1222, 1223, 1224, 1225, 1226, 1227, 1228, 1229, 1230, 1231, 1232, 1233, 1234, 1235, 1236, 1237, 1238, 1239, 1240] (by decide +kernel) (by decide +kernel)
set_option maxRecDepth 20000 in
theorem gL_law_X10_late : GoodIn wsL_law (wsV RL 102 RX10 yX10_late wsX10_late) := goodIn_app (goodIn_of _ (by decide +kernel)) ggL_law_X10_late
set_option maxRecDepth 20000 in
theorem ggL_law_X11_late : GoodIn wsL_law wsX11_late := goodIn_r _ [768, 110, 769, 89, 351, 352, 5, 353, 354, 256, 257, 258, 306, 307, 308, 309, 97, 85, 283, 86, 465, 466, 467, 468, 462, 463, 464, 299, 300, 301, 302, 303, 304, 305, 522, 523, 524, 525, 87, 88, 314, 315, 316, 317, 318, 319, 320, 321, 322, 323, 324, 1183, 1184, 1185, 1186, 1187, 1188, 1189, 1190, 1191, 1192, 1193, 1194, 1195, 1196, 1197, 1198, 1199, 1200, 1201, 1202, 1203, 1204, 1205, 1206, 1207, 1208, 1209, 1210, 1211, 1212, 1213, 1214, 1215, 1216, 1217, 1218, 1219, 1220, 1221] (by decide +kernel) (by decide +kernel)
set_option maxRecDepth 20000 in
theorem gL_law_X11_late : GoodIn wsL_law (wsV RL 105 RX11 yX11_late wsX11_late) := goodIn_app (goodIn_of _ (by decide +kernel)) ggL_law_X11_late
set_option maxRecDepth 20000 in
theorem ggL_law_X10_hisWay : GoodIn wsL_law wsX10_hisWay := goodIn_r _ [773, 22, 16, 26, 384, 202, 2, 203, 774, 775, 776, 777, 116, 117, 118, 119, 120, 121, 122, 123, 124, 125, 126, 127, 128, 129, 130, 131, 35, 34, 778, 779, 25, 780, 781, 782, 141, 142, 33, 143, 79, 80, 170, 171, 172, 708, 709, 710, 711, 473, 474, 475, 21, 476, 53, 477, 226, 227, 228, 54, 478, 479, 480, 234, 235, 15, 236, 40, 41, 237, 238, 168, 239, 481, 230, 214, 231, 232, 482, 483, 484, 485, 55, 486, 431, 432, 433, 216, 181, 182, 183, 42, 184, 185, 186, 434, 435, 436, 487, 488, 489, 490, 56, 491, 442, 443, 440, 430, 783, 784, 785, 786, 65, 787, 445, 446, 447, 448, 449, 788, 789, 790, 791, 762, 763, 764, 554, 500, 501, 502, 503, 504, 505, 1174, 1175, 1176, 1177, 1178, 1179, 1180, 1181, 1182, 1245, 1246, 1247, 1248, 1249, 1250, 1232, 1233, 1234, 1235, 1236, 1237, 1238, 1239, 1240, 1222, 1223, 1224, 1225, 1226, 1227, 1228, 1229, 1230, 1231, 1241, 1242, 1243] (by decide +kernel) (by decide +kernel)
set_option maxRecDepth 20000 in
theorem gL_law_X10_hisWay : GoodIn wsL_law (wsV RL 106 RX10 yX10_hisWay wsX10_hisWay) := goodIn_app (goodIn_of _ (by decide +kernel)) ggL_law_X10_hisWay
set_option maxRecDepth 20000 in
theorem ggL_law_X11_hisWay : GoodIn wsL_law wsX11_hisWay := goodIn_r _ [795, 110, 732, 256, 257, 5, 258, 796, 797, 798, 799, 95, 96, 251, 252, 253, 254, 255, 91, 351, 352, 353, 354, 458, 459, 460, 461, 306, 307, 308, 309, 97, 85, 283, 86, 800, 801, 802, 803, 462, 463, 464, 522, 523, 524, 525, 87, 88, 314, 315, 316, 317, 318, 319, 320, 321, 322, 323, 324, 804, 805, 806, 807, 465, 466, 467, 468, 299, 300, 301, 302, 303, 304, 305, 559, 560, 561, 1183, 1184, 1185, 1186, 1187, 1188, 1189, 1190, 1191, 1192, 1193, 1194, 1195, 1196, 1197, 1198, 1199, 1200, 1201, 1202, 1203, 1204, 1205, 1206, 1207, 1208, 1209, 1210, 1211, 1212, 1213, 1214, 1215, 1216, 1217, 1218, 1219, 1220, 1221] (by decide +kernel) (by decide +kernel)
set_option maxRecDepth 20000 in
theorem gL_law_X11_hisWay : GoodIn wsL_law (wsV RL 109 RX11 yX11_hisWay wsX11_hisWay) := goodIn_app (goodIn_of _ (by decide +kernel)) ggL_law_X11_hisWay
set_option maxRecDepth 20000 in
theorem ggL_law_X10_letter : GoodIn wsL_law wsX10_letter := goodIn_r _ [811, 22, 16, 26, 774, 775, 776, 2, 777, 116, 117, 118, 119, 120, 121, 122, 123, 124, 125, 126, 127, 128, 129, 130, 131, 35, 34, 778, 779, 25, 780, 781, 782, 141, 142, 33, 143, 79, 80, 170, 171, 172, 473, 474, 475, 21, 476, 53, 477, 226, 227, 228, 54, 478, 479, 480, 234, 235, 15, 236, 40, 41, 237, 238, 168, 239, 481, 230, 214, 231, 232, 482, 483, 484, 485, 55, 486, 431, 432, 433, 216, 181, 182, 183, 42, 184, 185, 186, 434, 435, 436, 487, 488, 489, 490, 56, 491, 442, 443, 440, 430, 783, 784, 785, 786, 65, 787, 445, 446, 447, 448, 449, 788, 789, 790, 791, 762, 763, 764, 812, 813, 814, 815, 816, 817, 818, 67, 66, 819, 820, 821, 822, 823, 824, 213, 215, 825, 826, 827, 828, 829, 830, 831, 832, 833, 500, 501, 502, 503, 504, 505, 1174, 1175, 1176, 1177, 1178, 1179, 1180, 1181, 1182, 1245, 1246, 1247, 1248, 1249, 1250, 1232, 1233, 1234, 1235, 1236, 1237, 1238, 1239, 1240, 1222, 1223, 1224, 1225, 1226, 1227, 1228, 1229, 1230, 1231, 1241, 1242, 1243] (by decide +kernel) (by decide +kernel)
set_option maxRecDepth 20000 in
theorem gL_law_X10_letter : GoodIn wsL_law (wsV RL 110 RX10 yX10_letter wsX10_letter) := goodIn_app (goodIn_of _ (by decide +kernel)) ggL_law_X10_letter
set_option maxRecDepth 20000 in
theorem ggL_law_X11_letter : GoodIn wsL_law wsX11_letter := goodIn_r _ [837, 110, 95, 796, 797, 798, 5, 799, 96, 251, 252, 253, 254, 255, 91, 256, 257, 258, 351, 352, 353, 354, 458, 459, 460, 461, 306, 307, 308, 309, 97, 85, 283, 86, 800, 801, 802, 803, 462, 463, 464, 522, 523, 524, 525, 87, 88, 314, 315, 316, 317, 318, 319, 320, 321, 322, 323, 324, 465, 466, 467, 468, 299, 300, 301, 302, 303, 304, 305, 804, 805, 806, 807, 559, 560, 561, 1183, 1184, 1185, 1186, 1187, 1188, 1189, 1190, 1191, 1192, 1193, 1194, 1195, 1196, 1197, 1198, 1199, 1200, 1201, 1202, 1203, 1204, 1205, 1206, 1207, 1208, 1209, 1210, 1211, 1212, 1213, 1214, 1215, 1216, 1217, 1218, 1219, 1220, 1221] (by decide +kernel) (by decide +kernel)
set_option maxRecDepth 20000 in
theorem gL_law_X11_letter : GoodIn wsL_law (wsV RL 113 RX11 yX11_letter wsX11_letter) := goodIn_app (goodIn_of _ (by decide +kernel)) ggL_law_X11_letter
set_option maxRecDepth 20000 in
theorem ggL_law_X10_third : GoodIn wsL_law wsX10_third := goodIn_r _ [841, 16, 22, 382, 383, 384, 202, 2, 203, 589, 590, 591, 15, 592, 45, 46, 473, 474, 475, 21, 476, 53, 477, 226, 227, 228, 54, 478, 479, 480, 234, 235, 236, 40, 41, 170, 171, 172, 237, 238, 168, 239, 481, 230, 214, 231, 232, 482, 483, 484, 485, 55, 486, 431, 432, 433, 216, 181, 182, 183, 42, 184, 185, 186, 434, 435, 436, 487, 488, 489, 490, 56, 491, 442, 443, 440, 761, 762, 763, 764, 430, 554, 500, 501, 502, 503, 504, 505, 842, 843, 844, 441, 1174, 1175, 1176, 1177, 1178, 1179, 1180, 1181, 1182, 1222, 1223, 1224, 1225, 1226, 1227, 1228, 1229, 1230, 1231, 1232, 1233, 1234, 1235, 1236, 1237, 1238, 1239, 1240] (by decide +kernel) (by decide +kernel)
set_option maxRecDepth 20000 in
theorem gL_law_X10_third : GoodIn wsL_law (wsV RL 114 RX10 yX10_third wsX10_third) := goodIn_app (goodIn_of _ (by decide +kernel)) ggL_law_X10_third
set_option maxRecDepth 20000 in
theorem ggL_law_X11_third : GoodIn wsL_law wsX11_third := goodIn_r _ [848, 110, 89, 90, 256, 257, 5, 258, 636, 637, 638, 639, 306, 307, 308, 309, 97, 85, 283, 86, 522, 523, 524, 525, 87, 88, 314, 315, 316, 317, 318, 319, 320, 321, 322, 323, 324, 1183, 1184, 1185, 1186, 1187, 1188, 1189, 1190, 1191, 1192, 1193, 1194, 1195, 1196, 1197, 1198, 1199, 1200, 1201, 1202, 1203, 1204, 1205, 1206, 1207, 1208, 1209, 1210, 1211, 1212, 1213, 1214, 1215, 1216, 1217, 1218, 1219, 1220, 1221] (by decide +kernel) (by decide +kernel)
set_option maxRecDepth 20000 in
theorem gL_law_X11_third : GoodIn wsL_law (wsV RL 117 RX11 yX11_third wsX11_third) := goodIn_app (goodIn_of _ (by decide +kernel)) ggL_law_X11_third
set_option maxRecDepth 20000 in
theorem ggL_law_X10_game : GoodIn wsL_law wsX10_game := goodIn_r _ [852, 16, 30, 384, 202, 2, 203, 589, 590, 591, 15, 592, 45, 46, 853, 854, 855, 29, 856, 857, 858, 71, 859, 209, 210, 211, 212, 213, 214, 215, 170, 171, 172, 216, 181, 182, 183, 40, 41, 42, 184, 185, 168, 186, 860, 222, 223, 224, 225, 226, 227, 228, 229, 230, 231, 232, 233, 234, 235, 236, 237, 238, 239, 861, 862, 863, 864, 865, 866, 867, 868, 409, 410, 869, 870, 871, 872, 873, 874, 875, 876, 877, 878, 879, 880, 881, 831, 832, 1174, 1175, 1176, 1177, 1178, 1179, 1180, 1181, 1182, 1222, 1223, 1224, 1225, 1226, 1227, 1228, 1229, 1230, 1231, 1244] (by decide +kernel) (by decide +kernel)
set_option maxRecDepth 20000 in
theorem gL_law_X10_game : GoodIn wsL_law (wsV RL 118 RX10 yX10_game wsX10_game) := goodIn_app (goodIn_of _ (by decide +kernel)) ggL_law_X10_game
set_option maxRecDepth 20000 in
theorem ggL_law_X11_game : GoodIn wsL_law wsX11_game := goodIn_r _ [885, 110, 256, 257, 5, 258, 636, 637, 638, 639, 89, 90, 886, 887, 888, 889, 890, 891, 892, 893, 299, 300, 301, 302, 303, 304, 305, 306, 307, 308, 309, 97, 85, 283, 86, 314, 315, 316, 317, 318, 319, 320, 321, 322, 323, 324, 1183, 1184, 1185, 1186, 1187, 1188, 1189, 1190, 1191, 1192, 1193, 1194, 1195, 1196, 1197, 1198, 1199, 1200, 1201, 1202, 1203, 1204, 1205, 1206, 1207, 1208, 1209, 1210, 1211, 1212, 1213, 1214, 1215, 1216, 1217, 1218, 1219, 1220, 1221] (by decide +kernel) (by decide +kernel)
set_option maxRecDepth 20000 in
theorem gL_law_X11_game : GoodIn wsL_law (wsV RL 121 RX11 yX11_game wsX11_game) := goodIn_app (goodIn_of _ (by decide +kernel)) ggL_law_X11_game
set_option maxRecDepth 20000 in
theorem ggL_law_X10_snow : GoodIn wsL_law wsX10_snow := goodIn_r _ [897, 16, 898, 329, 170, 2, 171, 172, 384, 202, 203, 708, 709, 710, 711, 899, 900, 901, 15, 902, 903, 341, 342, 343, 40, 41, 344, 345, 168, 346, 434, 435, 214, 436, 554, 500, 501, 502, 503, 504, 505, 904, 905, 906, 907, 908, 817, 227, 818, 909, 910, 911, 912, 913, 914, 915, 916, 917, 918, 442, 443, 440, 919, 920, 438, 439, 441, 444, 445, 446, 447, 448, 449, 921, 922, 923, 924, 925, 926, 927, 928, 929, 930, 931, 1174, 1175, 1176, 1177, 1178, 1179, 1180, 1181, 1182, 1222, 1223, 1224, 1225, 1226, 1227, 1228, 1229, 1230, 1231] (by decide +kernel) (by decide +kernel)
set_option maxRecDepth 20000 in
theorem gL_law_X10_snow : GoodIn wsL_law (wsV RL 122 RX10 yX10_snow wsX10_snow) := goodIn_app (goodIn_of _ (by decide +kernel)) ggL_law_X10_snow
set_option maxRecDepth 20000 in
theorem ggL_law_X11_snow : GoodIn wsL_law wsX11_snow := goodIn_r _ [935, 110, 936, 937, 938, 108, 737, 351, 352, 5, 353, 354, 256, 257, 258, 355, 356, 357, 358, 85, 86, 939, 940, 941, 462, 463, 464, 303, 304, 305, 942, 943, 944, 945, 946, 947, 1183, 1184, 1185, 1186, 1187, 1188, 1189, 1190, 1191, 1192, 1193, 1194, 1195, 1196, 1197, 1198, 1199, 1200, 1201, 1202, 1203, 1204, 1205, 1206, 1207, 1208, 1209, 1210, 1211, 1212, 1213, 1214, 1215, 1216, 1217, 1218, 1219, 1220, 1221] (by decide +kernel) (by decide +kernel)
set_option maxRecDepth 20000 in
theorem gL_law_X11_snow : GoodIn wsL_law (wsV RL 126 RX11 yX11_snow wsX11_snow) := goodIn_app (goodIn_of _ (by decide +kernel)) ggL_law_X11_snow
set_option maxRecDepth 20000 in
theorem ggL_law_X10_mean : GoodIn wsL_law wsX10_mean := goodIn_r _ [951, 22, 16, 384, 202, 2, 203, 708, 709, 710, 711, 473, 474, 475, 21, 476, 53, 477, 226, 227, 228, 54, 478, 479, 480, 234, 235, 15, 236, 40, 41, 170, 171, 172, 237, 238, 168, 239, 481, 230, 214, 231, 232, 482, 483, 484, 485, 55, 486, 431, 432, 433, 216, 181, 182, 183, 42, 184, 185, 186, 434, 435, 436, 487, 488, 489, 490, 56, 491, 442, 443, 440, 952, 953, 954, 955, 492, 493, 494, 495, 496, 497, 498, 499, 500, 501, 502, 503, 504, 505, 925, 926, 927, 928, 929, 930, 931, 1174, 1175, 1176, 1177, 1178, 1179, 1180, 1181, 1182, 1232, 1233, 1234, 1235, 1236, 1237, 1238, 1239, 1240, 1222, 1223, 1224, 1225, 1226, 1227, 1228, 1229, 1230, 1231] (by decide +kernel) (by decide +kernel)
set_option maxRecDepth 20000 in
theorem gL_law_X10_mean : GoodIn wsL_law (wsV RL 127 RX10 yX10_mean wsX10_mean) := goodIn_app (goodIn_of _ (by decide +kernel)) ggL_law_X10_mean
set_option maxRecDepth 20000 in
theorem ggL_law_X11_mean : GoodIn wsL_law wsX11_mean := goodIn_r _ [959, 110, 936, 256, 257, 5, 258, 518, 519, 520, 521, 306, 307, 308, 309, 97, 85, 283, 86, 522, 523, 524, 525, 87, 88, 314, 315, 316, 317, 318, 319, 320, 321, 322, 323, 324, 514, 515, 516, 517, 942, 943, 944, 945, 946, 947, 1183, 1184, 1185, 1186, 1187, 1188, 1189, 1190, 1191, 1192, 1193, 1194, 1195, 1196, 1197, 1198, 1199, 1200, 1201, 1202, 1203, 1204, 1205, 1206, 1207, 1208, 1209, 1210, 1211, 1212, 1213, 1214, 1215, 1216, 1217, 1218, 1219, 1220, 1221] (by decide +kernel) (by decide +kernel)
set_option maxRecDepth 20000 in
theorem gL_law_X11_mean : GoodIn wsL_law (wsV RL 130 RX11 yX11_mean wsX11_mean) := goodIn_app (goodIn_of _ (by decide +kernel)) ggL_law_X11_mean
set_option maxRecDepth 20000 in
theorem ggL_law_X10_curve : GoodIn wsL_law wsX10_curve := goodIn_r _ [963, 22, 16, 394, 397, 196, 2, 197, 473, 474, 475, 21, 476, 53, 477, 226, 227, 228, 54, 478, 479, 480, 234, 235, 15, 236, 40, 41, 170, 171, 172, 237, 238, 168, 239, 481, 230, 214, 231, 232, 482, 483, 484, 485, 55, 486, 431, 432, 433, 216, 181, 182, 183, 42, 184, 185, 186, 434, 435, 436, 487, 488, 489, 490, 56, 491, 442, 443, 440, 682, 430, 673, 492, 493, 494, 495, 496, 497, 498, 499, 500, 501, 502, 503, 504, 505, 1174, 1175, 1176, 1177, 1178, 1179, 1180, 1181, 1182, 1222, 1223, 1224, 1225, 1226, 1227, 1228, 1229, 1230, 1231, 1232, 1233, 1234, 1235, 1236, 1237, 1238, 1239, 1240] (by decide +kernel) (by decide +kernel)
set_option maxRecDepth 20000 in
theorem gL_law_X10_curve : GoodIn wsL_law (wsV RL 131 RX10 yX10_curve wsX10_curve) := goodIn_app (goodIn_of _ (by decide +kernel)) ggL_law_X10_curve
set_option maxRecDepth 20000 in
theorem ggL_law_X11_curve : GoodIn wsL_law wsX11_curve := goodIn_r _ [967, 110, 403, 88, 256, 257, 5, 258, 514, 515, 516, 517, 518, 519, 520, 521, 306, 307, 308, 309, 97, 85, 283, 86, 522, 523, 524, 525, 87, 314, 315, 316, 317, 318, 319, 320, 321, 322, 323, 324, 1183, 1184, 1185, 1186, 1187, 1188, 1189, 1190, 1191, 1192, 1193, 1194, 1195, 1196, 1197, 1198, 1199, 1200, 1201, 1202, 1203, 1204, 1205, 1206, 1207, 1208, 1209, 1210, 1211, 1212, 1213, 1214, 1215, 1216, 1217, 1218, 1219, 1220, 1221] (by decide +kernel) (by decide +kernel)
set_option maxRecDepth 20000 in
theorem gL_law_X11_curve : GoodIn wsL_law (wsV RL 134 RX11 yX11_curve wsX11_curve) := goodIn_app (goodIn_of _ (by decide +kernel)) ggL_law_X11_curve
set_option maxRecDepth 20000 in
theorem ggL_law_X10_judge : GoodIn wsL_law wsX10_judge := goodIn_r _ [971, 16, 382, 125, 126, 2, 127, 116, 117, 118, 119, 120, 121, 122, 123, 124, 128, 129, 130, 131, 35, 34, 972, 973, 25, 974, 975, 781, 976, 431, 432, 15, 433, 216, 181, 182, 183, 40, 41, 42, 170, 171, 172, 184, 185, 168, 186, 434, 435, 214, 436, 819, 782, 141, 142, 33, 143, 79, 80, 787, 445, 446, 447, 448, 449, 977, 978, 979, 980, 78, 981, 982, 983, 1174, 1175, 1176, 1177, 1178, 1179, 1180, 1181, 1182, 1222, 1223, 1224, 1225, 1226, 1227, 1228, 1229, 1230, 1231, 1245, 1246, 1247, 1248, 1249, 1250] (by decide +kernel) (by decide +kernel)
set_option maxRecDepth 20000 in
theorem gL_law_X10_judge : GoodIn wsL_law (wsV RL 135 RX10 yX10_judge wsX10_judge) := goodIn_app (goodIn_of _ (by decide +kernel)) ggL_law_X10_judge
set_option maxRecDepth 20000 in
theorem ggL_law_X11_judge : GoodIn wsL_law wsX11_judge := goodIn_r _ [987, 110, 255, 89, 95, 96, 256, 257, 5, 258, 251, 252, 253, 254, 91, 988, 989, 990, 991, 465, 466, 467, 468, 462, 463, 464, 299, 300, 301, 302, 303, 304, 305, 306, 307, 308, 309, 97, 85, 283, 86, 992, 993, 994, 995, 94, 996, 997, 998, 351, 352, 353, 354, 1183, 1184, 1185, 1186, 1187, 1188, 1189, 1190, 1191, 1192, 1193, 1194, 1195, 1196, 1197, 1198, 1199, 1200, 1201, 1202, 1203, 1204, 1205, 1206, 1207, 1208, 1209, 1210, 1211, 1212, 1213, 1214, 1215, 1216, 1217, 1218, 1219, 1220, 1221] (by decide +kernel) (by decide +kernel)
set_option maxRecDepth 20000 in
theorem gL_law_X11_judge : GoodIn wsL_law (wsV RL 138 RX11 yX11_judge wsX11_judge) := goodIn_app (goodIn_of _ (by decide +kernel)) ggL_law_X11_judge
set_option maxRecDepth 20000 in
theorem ggL_law_X10_seeds : GoodIn wsL_law wsX10_seeds := goodIn_r _ [1002, 16, 18, 1003, 1004, 382, 383, 384, 202, 2, 203, 589, 590, 591, 15, 592, 45, 46, 147, 148, 149, 150, 40, 41, 42, 43, 44, 47, 48, 49, 1005, 1006, 1007, 1008, 1009, 1010, 1011, 1012, 1013, 1014, 1015, 1016, 1017, 208, 209, 210, 211, 212, 213, 214, 215, 170, 171, 172, 216, 181, 182, 183, 184, 185, 168, 186, 1018, 218, 219, 220, 221, 222, 223, 224, 225, 226, 227, 228, 229, 230, 231, 232, 233, 234, 235, 236, 237, 238, 239, 1174, 1175, 1176, 1177, 1178, 1179, 1180, 1181, 1182, 1222, 1223, 1224, 1225, 1226, 1227, 1228, 1229, 1230, 1231] (by decide +kernel) (by decide +kernel)
set_option maxRecDepth 20000 in
theorem gL_law_X10_seeds : GoodIn wsL_law (wsV RL 139 RX10 yX10_seeds wsX10_seeds) := goodIn_app (goodIn_of _ (by decide +kernel)) ggL_law_X10_seeds
set_option maxRecDepth 20000 in
theorem ggL_law_X11_seeds : GoodIn wsL_law wsX11_seeds := goodIn_r _ [1022, 110, 403, 1023, 89, 90, 87, 88, 256, 257, 5, 258, 636, 637, 638, 639, 1024, 1025, 1026, 1027, 1028, 1029, 1030, 299, 300, 301, 302, 303, 304, 305, 306, 307, 308, 309, 97, 85, 283, 86, 314, 315, 316, 317, 318, 319, 320, 321, 322, 323, 324, 1183, 1184, 1185, 1186, 1187, 1188, 1189, 1190, 1191, 1192, 1193, 1194, 1195, 1196, 1197, 1198, 1199, 1200, 1201, 1202, 1203, 1204, 1205, 1206, 1207, 1208, 1209, 1210, 1211, 1212, 1213, 1214, 1215, 1216, 1217, 1218, 1219, 1220, 1221] (by decide +kernel) (by decide +kernel)
set_option maxRecDepth 20000 in
theorem gL_law_X11_seeds : GoodIn wsL_law (wsV RL 142 RX11 yX11_seeds wsX11_seeds) := goodIn_app (goodIn_of _ (by decide +kernel)) ggL_law_X11_seeds
set_option maxRecDepth 20000 in
theorem ggL_law_X10_image : GoodIn wsL_law wsX10_image := goodIn_r _ [1034, 17, 16, 1035, 1036, 147, 148, 149, 15, 150, 40, 41, 42, 43, 44, 45, 46, 47, 48, 49, 1174, 1175, 1176, 1177, 1178, 1179, 1180, 1181, 1182, 1222, 1223, 1224, 1225, 1226, 1227, 1228, 1229, 1230, 1231] (by decide +kernel) (by decide +kernel)
set_option maxRecDepth 20000 in
theorem gL_law_X10_image : GoodIn wsL_law (wsV RL 143 RX10 yX10_image wsX10_image) := goodIn_app (goodIn_of _ (by decide +kernel)) ggL_law_X10_image
set_option maxRecDepth 20000 in
theorem ggL_law_X11_image : GoodIn wsL_law wsX11_image := goodIn_r _ [1040, 110, 1041, 102, 284, 276, 277, 278, 5, 279, 280, 281, 282, 283, 87, 88, 89, 90, 285, 286, 85, 86, 287, 288, 289, 290, 1183, 1184, 1185, 1186, 1187, 1188, 1189, 1190, 1191, 1192, 1193, 1194, 1195, 1196, 1197, 1198, 1199, 1200, 1201, 1202, 1203, 1204, 1205, 1206, 1207, 1208, 1209, 1210, 1211, 1212, 1213, 1214, 1215, 1216, 1217, 1218, 1219, 1220, 1221] (by decide +kernel) (by decide +kernel)
set_option maxRecDepth 20000 in
theorem gL_law_X11_image : GoodIn wsL_law (wsV RL 146 RX11 yX11_image wsX11_image) := goodIn_app (goodIn_of _ (by decide +kernel)) ggL_law_X11_image
set_option maxRecDepth 20000 in
theorem ggL_law_X10_restore : GoodIn wsL_law wsX10_restore := goodIn_r _ [1045, 1035, 16, 17, 1036, 147, 148, 149, 15, 150, 40, 41, 42, 43, 44, 45, 46, 47, 48, 49, 1174, 1175, 1176, 1177, 1178, 1179, 1180, 1181, 1182, 1222, 1223, 1224, 1225, 1226, 1227, 1228, 1229, 1230, 1231] (by decide +kernel) (by decide +kernel)
set_option maxRecDepth 20000 in
theorem gL_law_X10_restore : GoodIn wsL_law (wsV RL 147 RX10 yX10_restore wsX10_restore) := goodIn_app (goodIn_of _ (by decide +kernel)) ggL_law_X10_restore
set_option maxRecDepth 20000 in
theorem ggL_law_X11_restore : GoodIn wsL_law wsX11_restore := goodIn_r _ [1049, 110, 1041, 102, 284, 276, 277, 278, 5, 279, 280, 281, 282, 283, 87, 88, 89, 90, 285, 286, 85, 86, 287, 288, 289, 290, 1183, 1184, 1185, 1186, 1187, 1188, 1189, 1190, 1191, 1192, 1193, 1194, 1195, 1196, 1197, 1198, 1199, 1200, 1201, 1202, 1203, 1204, 1205, 1206, 1207, 1208, 1209, 1210, 1211, 1212, 1213, 1214, 1215, 1216, 1217, 1218, 1219, 1220, 1221] (by decide +kernel) (by decide +kernel)
set_option maxRecDepth 20000 in
theorem gL_law_X11_restore : GoodIn wsL_law (wsV RL 150 RX11 yX11_restore wsX11_restore) := goodIn_app (goodIn_of _ (by decide +kernel)) ggL_law_X11_restore
set_option maxRecDepth 20000 in
theorem ggL_law_X10_count : GoodIn wsL_law wsX10_count := goodIn_r _ [1053, 16, 382, 383, 1036, 1003, 1004, 394, 395, 396, 430, 431, 432, 15, 433, 216, 181, 182, 183, 40, 41, 42, 170, 2, 171, 172, 184, 185, 168, 186, 434, 435, 214, 436, 554, 500, 501, 502, 503, 504, 505, 1174, 1175, 1176, 1177, 1178, 1179, 1180, 1181, 1182, 1222, 1223, 1224, 1225, 1226, 1227, 1228, 1229, 1230, 1231] (by decide +kernel) (by decide +kernel)
set_option maxRecDepth 20000 in
theorem gL_law_X10_count : GoodIn wsL_law (wsV RL 151 RX10 yX10_count wsX10_count) := goodIn_app (goodIn_of _ (by decide +kernel)) ggL_law_X10_count
set_option maxRecDepth 20000 in
theorem ggL_law_X11_count : GoodIn wsL_law wsX11_count := goodIn_r _ [1057, 110, 89, 90, 284, 285, 286, 87, 88, 283, 458, 459, 460, 5, 461, 306, 307, 308, 309, 97, 85, 86, 559, 560, 561, 1183, 1184, 1185, 1186, 1187, 1188, 1189, 1190, 1191, 1192, 1193, 1194, 1195, 1196, 1197, 1198, 1199, 1200, 1201, 1202, 1203, 1204, 1205, 1206, 1207, 1208, 1209, 1210, 1211, 1212, 1213, 1214, 1215, 1216, 1217, 1218, 1219, 1220, 1221] (by decide +kernel) (by decide +kernel)
set_option maxRecDepth 20000 in
theorem gL_law_X11_count : GoodIn wsL_law (wsV RL 154 RX11 yX11_count wsX11_count) := goodIn_app (goodIn_of _ (by decide +kernel)) ggL_law_X11_count
set_option maxRecDepth 20000 in
theorem ggL_law_X10_keep : GoodIn wsL_law wsX10_keep := goodIn_r _ [1061, 124, 125, 126, 2, 127, 384, 202, 203, 128, 129, 130, 131, 35, 34, 1062, 167, 168, 169, 1063, 1064, 1065, 33, 1066, 75, 76, 77, 1245, 1246, 1247, 1248, 1249, 1250, 1174, 1175, 1176, 1177, 1178, 1179, 1180, 1181, 1182] (by decide +kernel) (by decide +kernel)
set_option maxRecDepth 20000 in
theorem gL_law_X10_keep : GoodIn wsL_law (wsV RL 155 RX10 yX10_keep wsX10_keep) := goodIn_app (goodIn_of _ (by decide +kernel)) ggL_law_X10_keep
set_option maxRecDepth 20000 in
theorem ggL_law_X11_keep : GoodIn wsL_law wsX11_keep := goodIn_r _ [1070, 110, 255, 937, 91, 92, 93, 256, 257, 5, 258, 1183, 1184, 1185, 1186, 1187, 1188, 1189, 1190, 1191, 1192, 1193, 1194, 1195, 1196, 1197, 1198, 1199, 1200, 1201, 1202, 1203, 1204, 1205, 1206, 1207, 1208, 1209, 1210, 1211, 1212, 1213, 1214, 1215, 1216, 1217, 1218, 1219, 1220, 1221] (by decide +kernel) (by decide +kernel)
set_option maxRecDepth 20000 in
theorem gL_law_X11_keep : GoodIn wsL_law (wsV RL 159 RX11 yX11_keep wsX11_keep) := goodIn_app (goodIn_of _ (by decide +kernel)) ggL_law_X11_keep
set_option maxRecDepth 20000 in
theorem ggL_law_X10_row : GoodIn wsL_law wsX10_row := goodIn_r _ [1074, 125, 126, 2, 127, 128, 129, 130, 131, 35, 34, 1075, 1076, 1077, 33, 1078, 75, 78, 79, 80, 1079, 610, 607, 611, 1174, 1175, 1176, 1177, 1178, 1179, 1180, 1181, 1182, 1245, 1246, 1247, 1248, 1249, 1250] (by decide +kernel) (by decide +kernel)
set_option maxRecDepth 20000 in
theorem gL_law_X10_row : GoodIn wsL_law (wsV RL 160 RX10 yX10_row wsX10_row) := goodIn_app (goodIn_of _ (by decide +kernel)) ggL_law_X10_row
set_option maxRecDepth 20000 in
theorem ggL_law_X11_row : GoodIn wsL_law wsX11_row := goodIn_r _ [1083, 110, 255, 402, 91, 94, 95, 96, 256, 257, 5, 258, 1183, 1184, 1185, 1186, 1187, 1188, 1189, 1190, 1191, 1192, 1193, 1194, 1195, 1196, 1197, 1198, 1199, 1200, 1201, 1202, 1203, 1204, 1205, 1206, 1207, 1208, 1209, 1210, 1211, 1212, 1213, 1214, 1215, 1216, 1217, 1218, 1219, 1220, 1221] (by decide +kernel) (by decide +kernel)
set_option maxRecDepth 20000 in
theorem gL_law_X11_row : GoodIn wsL_law (wsV RL 163 RX11 yX11_row wsX11_row) := goodIn_app (goodIn_of _ (by decide +kernel)) ggL_law_X11_row
set_option maxRecDepth 20000 in
theorem ggL_law_X10_put : GoodIn wsL_law wsX10_put := goodIn_r _ [1087, 116, 117, 118, 2, 119, 120, 121, 122, 123, 124, 125, 126, 127, 128, 129, 130, 131, 35, 34, 1088, 1089, 1090, 33, 1091, 79, 1092, 1093, 1094, 1095, 80, 78, 1245, 1246, 1247, 1248, 1249, 1250, 1174, 1175, 1176, 1177, 1178, 1179, 1180, 1181, 1182] (by decide +kernel) (by decide +kernel)
set_option maxRecDepth 20000 in
theorem gL_law_X10_put : GoodIn wsL_law (wsV RL 164 RX10 yX10_put wsX10_put) := goodIn_app (goodIn_of _ (by decide +kernel)) ggL_law_X10_put
set_option maxRecDepth 20000 in
theorem ggL_law_X11_put : GoodIn wsL_law wsX11_put := goodIn_r _ [1099, 110, 95, 96, 94, 251, 252, 253, 5, 254, 255, 91, 256, 257, 258, 1100, 1101, 1102, 1183, 1184, 1185, 1186, 1187, 1188, 1189, 1190, 1191, 1192, 1193, 1194, 1195, 1196, 1197, 1198, 1199, 1200, 1201, 1202, 1203, 1204, 1205, 1206, 1207, 1208, 1209, 1210, 1211, 1212, 1213, 1214, 1215, 1216, 1217, 1218, 1219, 1220, 1221] (by decide +kernel) (by decide +kernel)
set_option maxRecDepth 20000 in
theorem gL_law_X11_put : GoodIn wsL_law (wsV RL 167 RX11 yX11_put wsX11_put) := goodIn_app (goodIn_of _ (by decide +kernel)) ggL_law_X11_put
set_option maxRecDepth 20000 in
theorem ggL_law_L_element : GoodIn wsL_law wsL_element := goodIn_ca (goodIn_ca (goodIn_r _ [1106, 1107, 1108, 1109, 1110, 1111, 2, 1112, 1113, 1114, 1115, 1116, 124, 125, 126, 127, 128, 129, 130, 131, 35, 34, 1088, 1089, 1090, 33, 1091, 79, 1117, 141, 142, 143, 80, 1245, 1246, 1247, 1248, 1249, 1250, 1174, 1175, 1176, 1177, 1178, 1179, 1180, 1181, 1182] (by decide +kernel) (by decide +kernel)) (goodIn_sub (fun _ h => List.mem_append_left _ (List.mem_append_left _ (List.mem_append_left _ (List.mem_append_left _ (List.mem_append_right _ h))))) (by decide +kernel))) (goodIn_sub (fun _ h => List.mem_append_left _ (List.mem_append_left _ (List.mem_append_left _ (List.mem_append_right _ h)))) (by decide +kernel))
set_option maxRecDepth 20000 in
theorem gL_law_L_element : GoodIn wsL_law (va_wsS RL 168 yL_element wsL_element) := goodIn_app (goodIn_of _ (by decide +kernel)) ggL_law_L_element
set_option maxRecDepth 20000 in
theorem ggL_law_X11_element : GoodIn wsL_law wsX11_element := goodIn_r _ [1121, 95, 110, 96, 251, 252, 253, 5, 254, 255, 91, 256, 257, 258, 1183, 1184, 1185, 1186, 1187, 1188, 1189, 1190, 1191, 1192, 1193, 1194, 1195, 1196, 1197, 1198, 1199, 1200, 1201, 1202, 1203, 1204, 1205, 1206, 1207, 1208, 1209, 1210, 1211, 1212, 1213, 1214, 1215, 1216, 1217, 1218, 1219, 1220, 1221] (by decide +kernel) (by decide +kernel)
set_option maxRecDepth 20000 in
theorem gL_law_X11_element : GoodIn wsL_law (wsV RL 173 RX11 yX11_element wsX11_element) := goodIn_app (goodIn_of _ (by decide +kernel)) ggL_law_X11_element
set_option maxRecDepth 20000 in
theorem ggL_law_X11_thrown : GoodIn wsL_law wsX11_thrown := goodIn_r _ [1125, 110, 1183, 1184, 1185, 1186, 1187, 1188, 1189, 1190, 1191, 1192, 1193, 1194, 1195, 1196, 1197, 1198, 1199, 1200, 1201, 1202, 1203, 1204, 1205, 1206, 1207, 1208, 1209, 1210, 1211, 1212, 1213, 1214, 1215, 1216, 1217, 1218, 1219, 1220, 1221] (by decide +kernel) (by decide +kernel)
set_option maxRecDepth 20000 in
theorem gL_law_X11_thrown : GoodIn wsL_law (wsV RL 174 RX11 yX11_thrown wsX11_thrown) := goodIn_app (goodIn_of _ (by decide +kernel)) ggL_law_X11_thrown
set_option maxRecDepth 20000 in
theorem ggL_law_X10_copy : GoodIn wsL_law wsX10_copy := goodIn_r _ [1129, 124, 115, 1130, 1131, 1132, 1133, 1134, 125, 126, 2, 127, 128, 129, 130, 131, 35, 34, 1135, 1136, 1137, 33, 1138, 79, 1245, 1246, 1247, 1248, 1249, 1250, 1174, 1175, 1176, 1177, 1178, 1179, 1180, 1181, 1182] (by decide +kernel) (by decide +kernel)
set_option maxRecDepth 20000 in
theorem gL_law_X10_copy : GoodIn wsL_law (wsV RL 177 RX10 yX10_copy wsX10_copy) := goodIn_app (goodIn_of _ (by decide +kernel)) ggL_law_X10_copy
set_option maxRecDepth 20000 in
theorem ggL_law_X11_copy : GoodIn wsL_law wsX11_copy := goodIn_r _ [1142, 110, 255, 91, 94, 95, 109, 96, 256, 257, 5, 258, 1183, 1184, 1185, 1186, 1187, 1188, 1189, 1190, 1191, 1192, 1193, 1194, 1195, 1196, 1197, 1198, 1199, 1200, 1201, 1202, 1203, 1204, 1205, 1206, 1207, 1208, 1209, 1210, 1211, 1212, 1213, 1214, 1215, 1216, 1217, 1218, 1219, 1220, 1221] (by decide +kernel) (by decide +kernel)
set_option maxRecDepth 20000 in
theorem gL_law_X11_copy : GoodIn wsL_law (wsV RL 181 RX11 yX11_copy wsX11_copy) := goodIn_app (goodIn_of _ (by decide +kernel)) ggL_law_X11_copy
set_option maxRecDepth 20000 in
theorem ggL_law_X10_cost : GoodIn wsL_law wsX10_cost := goodIn_r _ [1146, 363, 364, 365, 366, 367, 2, 368, 120, 121, 122, 123, 124, 125, 126, 127, 128, 129, 130, 131, 35, 34, 1147, 1148, 168, 1149, 1150, 831, 227, 832, 1245, 1246, 1247, 1248, 1249, 1250, 1174, 1175, 1176, 1177, 1178, 1179, 1180, 1181, 1182] (by decide +kernel) (by decide +kernel)
set_option maxRecDepth 20000 in
theorem gL_law_X10_cost : GoodIn wsL_law (wsV RL 182 RX10 yX10_cost wsX10_cost) := goodIn_app (goodIn_of _ (by decide +kernel)) ggL_law_X10_cost
set_option maxRecDepth 20000 in
theorem ggL_law_X11_cost : GoodIn wsL_law wsX11_cost := goodIn_r _ [1154, 110, 92, 93, 374, 375, 376, 5, 377, 255, 91, 256, 257, 258, 1155, 1156, 1157, 1183, 1184, 1185, 1186, 1187, 1188, 1189, 1190, 1191, 1192, 1193, 1194, 1195, 1196, 1197, 1198, 1199, 1200, 1201, 1202, 1203, 1204, 1205, 1206, 1207, 1208, 1209, 1210, 1211, 1212, 1213, 1214, 1215, 1216, 1217, 1218, 1219, 1220, 1221] (by decide +kernel) (by decide +kernel)
set_option maxRecDepth 20000 in
theorem gL_law_X11_cost : GoodIn wsL_law (wsV RL 185 RX11 yX11_cost wsX11_cost) := goodIn_app (goodIn_of _ (by decide +kernel)) ggL_law_X11_cost
set_option maxRecDepth 20000 in
theorem ggL_law_X10_toss : GoodIn wsL_law wsX10_toss := goodIn_ca (goodIn_ca (goodIn_ca (goodIn_r _ [1161, 1162, 1115, 1113, 363, 364, 365, 366, 367, 2, 368, 120, 121, 122, 123, 124, 125, 126, 127, 128, 129, 130, 131, 35, 34, 1163, 1164, 168, 1165, 1166, 1167, 1168, 1116, 1169, 1114, 1147, 1148, 1149, 1150, 831, 227, 832, 1245, 1246, 1247, 1248, 1249, 1250, 1174, 1175, 1176, 1177, 1178, 1179, 1180, 1181, 1182] (by decide +kernel) (by decide +kernel)) (goodIn_sub (fun _ h => List.mem_append_left _ (List.mem_append_left _ (List.mem_append_right _ h))) (by decide +kernel))) (goodIn_sub (fun _ h => List.mem_append_left _ (List.mem_append_right _ h)) (by decide +kernel))) (goodIn_sub (fun _ h => List.mem_append_right _ h) (by decide +kernel))
set_option maxRecDepth 20000 in
theorem gL_law_X10_toss : GoodIn wsL_law (wsV RL 186 RX10 yX10_toss wsX10_toss) := goodIn_app (goodIn_of _ (by decide +kernel)) ggL_law_X10_toss
set_option maxRecDepth 20000 in
theorem ggL_law_X11_toss : GoodIn wsL_law wsX11_toss := goodIn_r _ [1173, 110, 92, 93, 374, 375, 376, 5, 377, 255, 91, 256, 257, 258, 1155, 1156, 1157, 1183, 1184, 1185, 1186, 1187, 1188, 1189, 1190, 1191, 1192, 1193, 1194, 1195, 1196, 1197, 1198, 1199, 1200, 1201, 1202, 1203, 1204, 1205, 1206, 1207, 1208, 1209, 1210, 1211, 1212, 1213, 1214, 1215, 1216, 1217, 1218, 1219, 1220, 1221] (by decide +kernel) (by decide +kernel)
set_option maxRecDepth 20000 in
theorem gL_law_X11_toss : GoodIn wsL_law (wsV RL 189 RX11 yX11_toss wsX11_toss) := goodIn_app (goodIn_of _ (by decide +kernel)) ggL_law_X11_toss
abbrev vwCl : List vw_C := [(RX0, TX0, 9), (RX3, TX3, 10), (RX4, TX4, 1), (RX5, TX5, 6), (RX9, TX9, 3), (RX10, TX10, 9), (RX11, TX11, 39)]
end
section
theorem zz_last : True := trivial
end
