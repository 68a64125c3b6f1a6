section
-- ===== PART A: goes FIRST, ahead of the names: the tables' words, and 'selects' of the private methods out of them =====
/-- a private method of a class that the tables say can be made, by its rows of tables_1 -/
def lw_okq (q : MethodName × Nat) : Prop := (q.1.cls ≠ "java/lang/invoke/MethodHandle" ∧ q.1.cls ≠ "java/lang/invoke/VarHandle") ∧ Cond.instantiable q.1.cls q.2 ∈ tables_1 ∧ Cond.privateMethod q.1 ∈ tables_1 ∧ Cond.instanceMethod q.1 ∈ tables_1
theorem lw_p0 : lw_okq (⟨"NineMilesOff", "refusalOfRow", "(I)I"⟩, 9) := ⟨⟨by decide +kernel, by decide +kernel⟩, List.mem_of_getElem? (i := 24) (by decide +kernel), List.mem_of_getElem? (i := 212) (by decide +kernel), List.mem_of_getElem? (i := 213) (by decide +kernel)⟩
theorem lw_p1 : lw_okq (⟨"NineMilesOff", "refusalUnless", "(II)I"⟩, 9) := ⟨⟨by decide +kernel, by decide +kernel⟩, List.mem_of_getElem? (i := 24) (by decide +kernel), List.mem_of_getElem? (i := 216) (by decide +kernel), List.mem_of_getElem? (i := 217) (by decide +kernel)⟩
theorem lw_p2 : lw_okq (⟨"NineMilesOff", "shelfAt", "(I)LNineMilesOff$Shelf;"⟩, 9) := ⟨⟨by decide +kernel, by decide +kernel⟩, List.mem_of_getElem? (i := 24) (by decide +kernel), List.mem_of_getElem? (i := 223) (by decide +kernel), List.mem_of_getElem? (i := 224) (by decide +kernel)⟩
theorem lw_p3 : lw_okq (⟨"NineMilesOff", "refusalOfGround", "(I)I"⟩, 9) := ⟨⟨by decide +kernel, by decide +kernel⟩, List.mem_of_getElem? (i := 24) (by decide +kernel), List.mem_of_getElem? (i := 361) (by decide +kernel), List.mem_of_getElem? (i := 362) (by decide +kernel)⟩
theorem lw_p4 : lw_okq (⟨"NineMilesOff", "refusalToSee", "(II)I"⟩, 9) := ⟨⟨by decide +kernel, by decide +kernel⟩, List.mem_of_getElem? (i := 24) (by decide +kernel), List.mem_of_getElem? (i := 492) (by decide +kernel), List.mem_of_getElem? (i := 493) (by decide +kernel)⟩
theorem lw_p5 : lw_okq (⟨"NineMilesOff", "refusalToCount", "(I)I"⟩, 9) := ⟨⟨by decide +kernel, by decide +kernel⟩, List.mem_of_getElem? (i := 24) (by decide +kernel), List.mem_of_getElem? (i := 574) (by decide +kernel), List.mem_of_getElem? (i := 575) (by decide +kernel)⟩
theorem lw_p6 : lw_okq (⟨"NineMilesOff", "refusalOfTrack", "(I)I"⟩, 9) := ⟨⟨by decide +kernel, by decide +kernel⟩, List.mem_of_getElem? (i := 24) (by decide +kernel), List.mem_of_getElem? (i := 621) (by decide +kernel), List.mem_of_getElem? (i := 622) (by decide +kernel)⟩
theorem lw_p7 : lw_okq (⟨"java/lang/Throwable", "fillInStackTrace", "(I)Ljava/lang/Throwable;"⟩, 6) := ⟨⟨by decide +kernel, by decide +kernel⟩, List.mem_of_getElem? (i := 894) (by decide +kernel), List.mem_of_getElem? (i := 892) (by decide +kernel), List.mem_of_getElem? (i := 893) (by decide +kernel)⟩
theorem lw_p8 : lw_okq (⟨"NineMilesOffModel", "wrongRow", "(I)I"⟩, 39) := ⟨⟨by decide +kernel, by decide +kernel⟩, List.mem_of_getElem? (i := 972) (by decide +kernel), List.mem_of_getElem? (i := 1104) (by decide +kernel), List.mem_of_getElem? (i := 1105) (by decide +kernel)⟩
theorem lw_p9 : lw_okq (⟨"NineMilesOffModel", "readStatement", "()V"⟩, 39) := ⟨⟨by decide +kernel, by decide +kernel⟩, List.mem_of_getElem? (i := 972) (by decide +kernel), List.mem_of_getElem? (i := 1112) (by decide +kernel), List.mem_of_getElem? (i := 1113) (by decide +kernel)⟩
theorem lw_p10 : lw_okq (⟨"NineMilesOffModel", "here", "()I"⟩, 39) := ⟨⟨by decide +kernel, by decide +kernel⟩, List.mem_of_getElem? (i := 972) (by decide +kernel), List.mem_of_getElem? (i := 1116) (by decide +kernel), List.mem_of_getElem? (i := 1117) (by decide +kernel)⟩
theorem lw_p11 : lw_okq (⟨"NineMilesOffModel", "readDigits", "(I)I"⟩, 39) := ⟨⟨by decide +kernel, by decide +kernel⟩, List.mem_of_getElem? (i := 972) (by decide +kernel), List.mem_of_getElem? (i := 1123) (by decide +kernel), List.mem_of_getElem? (i := 1124) (by decide +kernel)⟩
theorem lw_p12 : lw_okq (⟨"NineMilesOffModel", "carryAll", "([IZ)V"⟩, 39) := ⟨⟨by decide +kernel, by decide +kernel⟩, List.mem_of_getElem? (i := 972) (by decide +kernel), List.mem_of_getElem? (i := 1129) (by decide +kernel), List.mem_of_getElem? (i := 1130) (by decide +kernel)⟩
theorem lw_p13 : lw_okq (⟨"NineMilesOffModel", "carry", "(I)I"⟩, 39) := ⟨⟨by decide +kernel, by decide +kernel⟩, List.mem_of_getElem? (i := 972) (by decide +kernel), List.mem_of_getElem? (i := 1133) (by decide +kernel), List.mem_of_getElem? (i := 1134) (by decide +kernel)⟩
theorem lw_p14 : lw_okq (⟨"NineMilesOffModel", "comes", "(I)Z"⟩, 39) := ⟨⟨by decide +kernel, by decide +kernel⟩, List.mem_of_getElem? (i := 972) (by decide +kernel), List.mem_of_getElem? (i := 1137) (by decide +kernel), List.mem_of_getElem? (i := 1138) (by decide +kernel)⟩
theorem lw_p15 : lw_okq (⟨"NineMilesOffModel", "canGo", "(II)Z"⟩, 39) := ⟨⟨by decide +kernel, by decide +kernel⟩, List.mem_of_getElem? (i := 972) (by decide +kernel), List.mem_of_getElem? (i := 1141) (by decide +kernel), List.mem_of_getElem? (i := 1142) (by decide +kernel)⟩
def lw_privs_1 : List (MethodName × Nat) := [(⟨"NineMilesOff", "refusalOfRow", "(I)I"⟩, 9), (⟨"NineMilesOff", "refusalUnless", "(II)I"⟩, 9), (⟨"NineMilesOff", "shelfAt", "(I)LNineMilesOff$Shelf;"⟩, 9), (⟨"NineMilesOff", "refusalOfGround", "(I)I"⟩, 9), (⟨"NineMilesOff", "refusalToSee", "(II)I"⟩, 9), (⟨"NineMilesOff", "refusalToCount", "(I)I"⟩, 9), (⟨"NineMilesOff", "refusalOfTrack", "(I)I"⟩, 9), (⟨"java/lang/Throwable", "fillInStackTrace", "(I)Ljava/lang/Throwable;"⟩, 6), (⟨"NineMilesOffModel", "wrongRow", "(I)I"⟩, 39), (⟨"NineMilesOffModel", "readStatement", "()V"⟩, 39), (⟨"NineMilesOffModel", "here", "()I"⟩, 39), (⟨"NineMilesOffModel", "readDigits", "(I)I"⟩, 39), (⟨"NineMilesOffModel", "carryAll", "([IZ)V"⟩, 39), (⟨"NineMilesOffModel", "carry", "(I)I"⟩, 39), (⟨"NineMilesOffModel", "comes", "(I)Z"⟩, 39), (⟨"NineMilesOffModel", "canGo", "(II)Z"⟩, 39)]
theorem lw_r1 : ∀ q ∈ lw_privs_1, lw_okq q := List.forall_mem_cons.mpr ⟨lw_p0, List.forall_mem_cons.mpr ⟨lw_p1, List.forall_mem_cons.mpr ⟨lw_p2, List.forall_mem_cons.mpr ⟨lw_p3, List.forall_mem_cons.mpr ⟨lw_p4, List.forall_mem_cons.mpr ⟨lw_p5, List.forall_mem_cons.mpr ⟨lw_p6, List.forall_mem_cons.mpr ⟨lw_p7, List.forall_mem_cons.mpr ⟨lw_p8, List.forall_mem_cons.mpr ⟨lw_p9, List.forall_mem_cons.mpr ⟨lw_p10, List.forall_mem_cons.mpr ⟨lw_p11, List.forall_mem_cons.mpr ⟨lw_p12, List.forall_mem_cons.mpr ⟨lw_p13, List.forall_mem_cons.mpr ⟨lw_p14, List.forall_mem_cons.mpr ⟨lw_p15, fun _ h => absurd h List.not_mem_nil⟩⟩⟩⟩⟩⟩⟩⟩⟩⟩⟩⟩⟩⟩⟩⟩
theorem lw_p16 : lw_okq (⟨"NineMilesOffModel", "goneTo", "(II)I"⟩, 39) := ⟨⟨by decide +kernel, by decide +kernel⟩, List.mem_of_getElem? (i := 972) (by decide +kernel), List.mem_of_getElem? (i := 1145) (by decide +kernel), List.mem_of_getElem? (i := 1146) (by decide +kernel)⟩
theorem lw_p17 : lw_okq (⟨"NineMilesOffModel", "isOpen", "(I)Z"⟩, 39) := ⟨⟨by decide +kernel, by decide +kernel⟩, List.mem_of_getElem? (i := 972) (by decide +kernel), List.mem_of_getElem? (i := 1152) (by decide +kernel), List.mem_of_getElem? (i := 1153) (by decide +kernel)⟩
theorem lw_p18 : lw_okq (⟨"NineMilesOffModel", "goBoth", "(II)V"⟩, 39) := ⟨⟨by decide +kernel, by decide +kernel⟩, List.mem_of_getElem? (i := 972) (by decide +kernel), List.mem_of_getElem? (i := 1156) (by decide +kernel), List.mem_of_getElem? (i := 1157) (by decide +kernel)⟩
theorem lw_p19 : lw_okq (⟨"NineMilesOffModel", "farOf", "(II)I"⟩, 39) := ⟨⟨by decide +kernel, by decide +kernel⟩, List.mem_of_getElem? (i := 972) (by decide +kernel), List.mem_of_getElem? (i := 1160) (by decide +kernel), List.mem_of_getElem? (i := 1161) (by decide +kernel)⟩
theorem lw_p20 : lw_okq (⟨"NineMilesOffModel", "heightOf", "(I)I"⟩, 39) := ⟨⟨by decide +kernel, by decide +kernel⟩, List.mem_of_getElem? (i := 972) (by decide +kernel), List.mem_of_getElem? (i := 1167) (by decide +kernel), List.mem_of_getElem? (i := 1168) (by decide +kernel)⟩
theorem lw_p21 : lw_okq (⟨"NineMilesOffModel", "chanceOf", "(I)I"⟩, 39) := ⟨⟨by decide +kernel, by decide +kernel⟩, List.mem_of_getElem? (i := 972) (by decide +kernel), List.mem_of_getElem? (i := 1187) (by decide +kernel), List.mem_of_getElem? (i := 1188) (by decide +kernel)⟩
theorem lw_p22 : lw_okq (⟨"NineMilesOffModel", "wrongKept", "(I)I"⟩, 39) := ⟨⟨by decide +kernel, by decide +kernel⟩, List.mem_of_getElem? (i := 972) (by decide +kernel), List.mem_of_getElem? (i := 1195) (by decide +kernel), List.mem_of_getElem? (i := 1196) (by decide +kernel)⟩
theorem lw_p23 : lw_okq (⟨"NineMilesOffModel", "layStepsFrom", "(I)V"⟩, 39) := ⟨⟨by decide +kernel, by decide +kernel⟩, List.mem_of_getElem? (i := 972) (by decide +kernel), List.mem_of_getElem? (i := 1222) (by decide +kernel), List.mem_of_getElem? (i := 1223) (by decide +kernel)⟩
theorem lw_p24 : lw_okq (⟨"NineMilesOffModel", "openCells", "()J"⟩, 39) := ⟨⟨by decide +kernel, by decide +kernel⟩, List.mem_of_getElem? (i := 972) (by decide +kernel), List.mem_of_getElem? (i := 1226) (by decide +kernel), List.mem_of_getElem? (i := 1227) (by decide +kernel)⟩
theorem lw_p25 : lw_okq (⟨"NineMilesOffModel", "goOn", "(J)J"⟩, 39) := ⟨⟨by decide +kernel, by decide +kernel⟩, List.mem_of_getElem? (i := 972) (by decide +kernel), List.mem_of_getElem? (i := 1233) (by decide +kernel), List.mem_of_getElem? (i := 1234) (by decide +kernel)⟩
theorem lw_p26 : lw_okq (⟨"NineMilesOffModel", "pairMany", "()I"⟩, 39) := ⟨⟨by decide +kernel, by decide +kernel⟩, List.mem_of_getElem? (i := 972) (by decide +kernel), List.mem_of_getElem? (i := 1241) (by decide +kernel), List.mem_of_getElem? (i := 1242) (by decide +kernel)⟩
theorem lw_p27 : lw_okq (⟨"NineMilesOffModel", "isPair", "(II)Z"⟩, 39) := ⟨⟨by decide +kernel, by decide +kernel⟩, List.mem_of_getElem? (i := 972) (by decide +kernel), List.mem_of_getElem? (i := 1245) (by decide +kernel), List.mem_of_getElem? (i := 1246) (by decide +kernel)⟩
theorem lw_p28 : lw_okq (⟨"NineMilesOffModel", "isOff", "(II)Z"⟩, 39) := ⟨⟨by decide +kernel, by decide +kernel⟩, List.mem_of_getElem? (i := 972) (by decide +kernel), List.mem_of_getElem? (i := 1249) (by decide +kernel), List.mem_of_getElem? (i := 1250) (by decide +kernel)⟩
theorem lw_p29 : lw_okq (⟨"NineMilesOffModel", "partWith", "(I)J"⟩, 39) := ⟨⟨by decide +kernel, by decide +kernel⟩, List.mem_of_getElem? (i := 972) (by decide +kernel), List.mem_of_getElem? (i := 1257) (by decide +kernel), List.mem_of_getElem? (i := 1258) (by decide +kernel)⟩
theorem lw_p30 : lw_okq (⟨"NineMilesOffModel", "wrongTwo", "(II)I"⟩, 39) := ⟨⟨by decide +kernel, by decide +kernel⟩, List.mem_of_getElem? (i := 972) (by decide +kernel), List.mem_of_getElem? (i := 1276) (by decide +kernel), List.mem_of_getElem? (i := 1277) (by decide +kernel)⟩
theorem lw_p31 : lw_okq (⟨"NineMilesOffModel", "areBoth", "()Z"⟩, 39) := ⟨⟨by decide +kernel, by decide +kernel⟩, List.mem_of_getElem? (i := 972) (by decide +kernel), List.mem_of_getElem? (i := 1280) (by decide +kernel), List.mem_of_getElem? (i := 1281) (by decide +kernel)⟩
def lw_privs_2 : List (MethodName × Nat) := [(⟨"NineMilesOffModel", "goneTo", "(II)I"⟩, 39), (⟨"NineMilesOffModel", "isOpen", "(I)Z"⟩, 39), (⟨"NineMilesOffModel", "goBoth", "(II)V"⟩, 39), (⟨"NineMilesOffModel", "farOf", "(II)I"⟩, 39), (⟨"NineMilesOffModel", "heightOf", "(I)I"⟩, 39), (⟨"NineMilesOffModel", "chanceOf", "(I)I"⟩, 39), (⟨"NineMilesOffModel", "wrongKept", "(I)I"⟩, 39), (⟨"NineMilesOffModel", "layStepsFrom", "(I)V"⟩, 39), (⟨"NineMilesOffModel", "openCells", "()J"⟩, 39), (⟨"NineMilesOffModel", "goOn", "(J)J"⟩, 39), (⟨"NineMilesOffModel", "pairMany", "()I"⟩, 39), (⟨"NineMilesOffModel", "isPair", "(II)Z"⟩, 39), (⟨"NineMilesOffModel", "isOff", "(II)Z"⟩, 39), (⟨"NineMilesOffModel", "partWith", "(I)J"⟩, 39), (⟨"NineMilesOffModel", "wrongTwo", "(II)I"⟩, 39), (⟨"NineMilesOffModel", "areBoth", "()Z"⟩, 39)]
theorem lw_r2 : ∀ q ∈ lw_privs_2, lw_okq q := List.forall_mem_cons.mpr ⟨lw_p16, List.forall_mem_cons.mpr ⟨lw_p17, List.forall_mem_cons.mpr ⟨lw_p18, List.forall_mem_cons.mpr ⟨lw_p19, List.forall_mem_cons.mpr ⟨lw_p20, List.forall_mem_cons.mpr ⟨lw_p21, List.forall_mem_cons.mpr ⟨lw_p22, List.forall_mem_cons.mpr ⟨lw_p23, List.forall_mem_cons.mpr ⟨lw_p24, List.forall_mem_cons.mpr ⟨lw_p25, List.forall_mem_cons.mpr ⟨lw_p26, List.forall_mem_cons.mpr ⟨lw_p27, List.forall_mem_cons.mpr ⟨lw_p28, List.forall_mem_cons.mpr ⟨lw_p29, List.forall_mem_cons.mpr ⟨lw_p30, List.forall_mem_cons.mpr ⟨lw_p31, fun _ h => absurd h List.not_mem_nil⟩⟩⟩⟩⟩⟩⟩⟩⟩⟩⟩⟩⟩⟩⟩⟩
theorem lw_p32 : lw_okq (⟨"NineMilesOffModel", "seeDays", "(II)I"⟩, 39) := ⟨⟨by decide +kernel, by decide +kernel⟩, List.mem_of_getElem? (i := 972) (by decide +kernel), List.mem_of_getElem? (i := 1284) (by decide +kernel), List.mem_of_getElem? (i := 1285) (by decide +kernel)⟩
theorem lw_p33 : lw_okq (⟨"NineMilesOffModel", "layDaysFrom", "(II)V"⟩, 39) := ⟨⟨by decide +kernel, by decide +kernel⟩, List.mem_of_getElem? (i := 972) (by decide +kernel), List.mem_of_getElem? (i := 1288) (by decide +kernel), List.mem_of_getElem? (i := 1289) (by decide +kernel)⟩
theorem lw_p34 : lw_okq (⟨"NineMilesOffModel", "wrongWays", "(I)I"⟩, 39) := ⟨⟨by decide +kernel, by decide +kernel⟩, List.mem_of_getElem? (i := 972) (by decide +kernel), List.mem_of_getElem? (i := 1313) (by decide +kernel), List.mem_of_getElem? (i := 1314) (by decide +kernel)⟩
theorem lw_p35 : lw_okq (⟨"NineMilesOffModel", "layWays", "(I)V"⟩, 39) := ⟨⟨by decide +kernel, by decide +kernel⟩, List.mem_of_getElem? (i := 972) (by decide +kernel), List.mem_of_getElem? (i := 1319) (by decide +kernel), List.mem_of_getElem? (i := 1320) (by decide +kernel)⟩
theorem lw_p36 : lw_okq (⟨"NineMilesOffModel", "wrongCells", "(I)I"⟩, 39) := ⟨⟨by decide +kernel, by decide +kernel⟩, List.mem_of_getElem? (i := 972) (by decide +kernel), List.mem_of_getElem? (i := 1336) (by decide +kernel), List.mem_of_getElem? (i := 1337) (by decide +kernel)⟩
theorem lw_p37 : lw_okq (⟨"NineMilesOffModel", "notOff", "(IIJ)J"⟩, 39) := ⟨⟨by decide +kernel, by decide +kernel⟩, List.mem_of_getElem? (i := 972) (by decide +kernel), List.mem_of_getElem? (i := 1340) (by decide +kernel), List.mem_of_getElem? (i := 1341) (by decide +kernel)⟩
theorem lw_p38 : lw_okq (⟨"NineMilesOffModel", "toTheLast", "(IIJ)J"⟩, 39) := ⟨⟨by decide +kernel, by decide +kernel⟩, List.mem_of_getElem? (i := 972) (by decide +kernel), List.mem_of_getElem? (i := 1344) (by decide +kernel), List.mem_of_getElem? (i := 1345) (by decide +kernel)⟩
theorem lw_p39 : lw_okq (⟨"NineMilesOffModel", "rests", "(II)Z"⟩, 39) := ⟨⟨by decide +kernel, by decide +kernel⟩, List.mem_of_getElem? (i := 972) (by decide +kernel), List.mem_of_getElem? (i := 1360) (by decide +kernel), List.mem_of_getElem? (i := 1361) (by decide +kernel)⟩
theorem lw_p40 : lw_okq (⟨"NineMilesOffModel", "farBy", "(II)I"⟩, 39) := ⟨⟨by decide +kernel, by decide +kernel⟩, List.mem_of_getElem? (i := 972) (by decide +kernel), List.mem_of_getElem? (i := 1364) (by decide +kernel), List.mem_of_getElem? (i := 1365) (by decide +kernel)⟩
theorem lw_p41 : lw_okq (⟨"NineMilesOffModel", "stayOrGo", "(J)J"⟩, 39) := ⟨⟨by decide +kernel, by decide +kernel⟩, List.mem_of_getElem? (i := 972) (by decide +kernel), List.mem_of_getElem? (i := 1396) (by decide +kernel), List.mem_of_getElem? (i := 1397) (by decide +kernel)⟩
theorem lw_p42 : lw_okq (⟨"NineMilesOffModel", "skipped", "(I)J"⟩, 39) := ⟨⟨by decide +kernel, by decide +kernel⟩, List.mem_of_getElem? (i := 972) (by decide +kernel), List.mem_of_getElem? (i := 1400) (by decide +kernel), List.mem_of_getElem? (i := 1401) (by decide +kernel)⟩
theorem lw_p43 : lw_okq (⟨"NineMilesOffModel", "drawBelow", "(I)I"⟩, 39) := ⟨⟨by decide +kernel, by decide +kernel⟩, List.mem_of_getElem? (i := 972) (by decide +kernel), List.mem_of_getElem? (i := 1411) (by decide +kernel), List.mem_of_getElem? (i := 1412) (by decide +kernel)⟩
def lw_privs_3 : List (MethodName × Nat) := [(⟨"NineMilesOffModel", "seeDays", "(II)I"⟩, 39), (⟨"NineMilesOffModel", "layDaysFrom", "(II)V"⟩, 39), (⟨"NineMilesOffModel", "wrongWays", "(I)I"⟩, 39), (⟨"NineMilesOffModel", "layWays", "(I)V"⟩, 39), (⟨"NineMilesOffModel", "wrongCells", "(I)I"⟩, 39), (⟨"NineMilesOffModel", "notOff", "(IIJ)J"⟩, 39), (⟨"NineMilesOffModel", "toTheLast", "(IIJ)J"⟩, 39), (⟨"NineMilesOffModel", "rests", "(II)Z"⟩, 39), (⟨"NineMilesOffModel", "farBy", "(II)I"⟩, 39), (⟨"NineMilesOffModel", "stayOrGo", "(J)J"⟩, 39), (⟨"NineMilesOffModel", "skipped", "(I)J"⟩, 39), (⟨"NineMilesOffModel", "drawBelow", "(I)I"⟩, 39)]
theorem lw_r3 : ∀ q ∈ lw_privs_3, lw_okq q := List.forall_mem_cons.mpr ⟨lw_p32, List.forall_mem_cons.mpr ⟨lw_p33, List.forall_mem_cons.mpr ⟨lw_p34, List.forall_mem_cons.mpr ⟨lw_p35, List.forall_mem_cons.mpr ⟨lw_p36, List.forall_mem_cons.mpr ⟨lw_p37, List.forall_mem_cons.mpr ⟨lw_p38, List.forall_mem_cons.mpr ⟨lw_p39, List.forall_mem_cons.mpr ⟨lw_p40, List.forall_mem_cons.mpr ⟨lw_p41, List.forall_mem_cons.mpr ⟨lw_p42, List.forall_mem_cons.mpr ⟨lw_p43, fun _ h => absurd h List.not_mem_nil⟩⟩⟩⟩⟩⟩⟩⟩⟩⟩⟩⟩
def lw_privs : List (MethodName × Nat) := lw_privs_1 ++ (lw_privs_2 ++ (lw_privs_3))
def lw_tbl : List Cond := k2_sels lw_privs ++ tables_1
theorem lw_privs_ok : ∀ q ∈ lw_privs, lw_okq q := by
  show ∀ q ∈ lw_privs_1 ++ (lw_privs_2 ++ (lw_privs_3)), lw_okq q
  exact List.forall_mem_append.mpr ⟨lw_r1, List.forall_mem_append.mpr ⟨lw_r2, lw_r3⟩⟩

def RX0 : String := "NineMilesOff$Board"
def TX0 : u_T := fun k => match k with
  | 0 => ("NineMilesOff$Board", "heights", "[I", true)
  | 1 => ("NineMilesOff$Board", "fars", "[I", true)
  | 2 => ("NineMilesOff$Board", "near", "[J", true)
  | 3 => ("NineMilesOff$Board", "fit", "[J", true)
  | 4 => ("NineMilesOff$Board", "come", "[J", true)
  | 5 => ("NineMilesOff$Board", "fresh", "[J", true)
  | 6 => ("NineMilesOff$Board", "days", "[I", true)
  | 7 => ("NineMilesOff$Board", "walks", "[J", true)
  | _ => ("NineMilesOff$Board", "half", "[J", true)
def tyX0 : Nat → FieldType := fun k => match k with
  | 0 => .array .int
  | 1 => .array .int
  | 2 => .array .long
  | 3 => .array .long
  | 4 => .array .long
  | 5 => .array .long
  | 6 => .array .int
  | 7 => .array .long
  | _ => .array .long
abbrev wsX00 : List Cond := u_ws RX0 TX0 9
theorem nmX0 : ∀ a, a < 9 → ∀ b, b < 9 → a ≠ b → (TX0 a).2.1 ≠ (TX0 b).2.1 := by decide +kernel
theorem tyX0_ok : ∀ k, k < 9 → parseFieldDescriptor (TX0 k).2.2.1 = some (tyX0 k) := by decide +kernel
abbrev cX0_init : ByteArray := prog_2_method_1_code
def yX0_init : MethodName := ⟨RX0, "<init>", "()V"⟩
abbrev cX0_lay : ByteArray := prog_2_method_2_code
def yX0_lay : MethodName := ⟨RX0, "lay", "(LNineMilesOff$Land;)V"⟩
abbrev cX0_bound : ByteArray := prog_2_method_3_code
def yX0_bound : MethodName := ⟨RX0, "bound", "(II)V"⟩
abbrev cX0_admit : ByteArray := prog_2_method_4_code
def yX0_admit : MethodName := ⟨RX0, "admit", "(J)V"⟩
abbrev cX0_nearOf : ByteArray := prog_2_method_5_code
def yX0_nearOf : MethodName := ⟨RX0, "nearOf", "(I)J"⟩
abbrev cX0_isPair : ByteArray := prog_2_method_6_code
def yX0_isPair : MethodName := ⟨RX0, "isPair", "(II)Z"⟩
abbrev cX0_pairsInAll : ByteArray := prog_2_method_7_code
def yX0_pairsInAll : MethodName := ⟨RX0, "pairsInAll", "()I"⟩
abbrev cX0_bitsOf : ByteArray := prog_2_method_8_code
def yX0_bitsOf : MethodName := ⟨RX0, "bitsOf", "([J)I"⟩
abbrev cX0_pairAt : ByteArray := prog_2_method_9_code
def yX0_pairAt : MethodName := ⟨RX0, "pairAt", "(I)I"⟩
abbrev cX0_farsInAll : ByteArray := prog_2_method_10_code
def yX0_farsInAll : MethodName := ⟨RX0, "farsInAll", "()J"⟩
abbrev cX0_start : ByteArray := prog_2_method_11_code
def yX0_start : MethodName := ⟨RX0, "start", "(II)V"⟩
abbrev cX0_spreadOn : ByteArray := prog_2_method_12_code
def yX0_spreadOn : MethodName := ⟨RX0, "spreadOn", "(I)Z"⟩
abbrev cX0_comeAround : ByteArray := prog_2_method_13_code
def yX0_comeAround : MethodName := ⟨RX0, "comeAround", "(I)J"⟩
abbrev cX0_mark : ByteArray := prog_2_method_14_code
def yX0_mark : MethodName := ⟨RX0, "mark", "(IJI)V"⟩
abbrev cX0_daysBetween : ByteArray := prog_2_method_15_code
def yX0_daysBetween : MethodName := ⟨RX0, "daysBetween", "(IIII)I"⟩
abbrev cX0_daysLeft : ByteArray := prog_2_method_16_code
def yX0_daysLeft : MethodName := ⟨RX0, "daysLeft", "(II)I"⟩
abbrev cX0_pairOnWay : ByteArray := prog_2_method_17_code
def yX0_pairOnWay : MethodName := ⟨RX0, "pairOnWay", "(III)I"⟩
abbrev cX0_nextPair : ByteArray := prog_2_method_18_code
def yX0_nextPair : MethodName := ⟨RX0, "nextPair", "(II)I"⟩
abbrev cX0_pairsWithin : ByteArray := prog_2_method_19_code
def yX0_pairsWithin : MethodName := ⟨RX0, "pairsWithin", "(III)I"⟩
abbrev cX0_walk : ByteArray := prog_2_method_20_code
def yX0_walk : MethodName := ⟨RX0, "walk", "(III)V"⟩
abbrev cX0_walkHim : ByteArray := prog_2_method_21_code
def yX0_walkHim : MethodName := ⟨RX0, "walkHim", "()V"⟩
abbrev cX0_walkHer : ByteArray := prog_2_method_22_code
def yX0_walkHer : MethodName := ⟨RX0, "walkHer", "()V"⟩
abbrev cX0_walksTo : ByteArray := prog_2_method_23_code
def yX0_walksTo : MethodName := ⟨RX0, "walksTo", "(II)J"⟩
abbrev cX0_walksInAll : ByteArray := prog_2_method_24_code
def yX0_walksInAll : MethodName := ⟨RX0, "walksInAll", "()J"⟩
def RX1 : String := "NineMilesOff$Fraction"
def TX1 : u_T := fun k => match k with
  | _ => ("", "", "", false)
def tyX1 : Nat → FieldType := fun k => match k with
  | _ => .int
abbrev wsX10 : List Cond := u_ws RX1 TX1 0
theorem nmX1 : ∀ a, a < 0 → ∀ b, b < 0 → a ≠ b → (TX1 a).2.1 ≠ (TX1 b).2.1 := by decide +kernel
theorem tyX1_ok : ∀ k, k < 0 → parseFieldDescriptor (TX1 k).2.2.1 = some (tyX1 k) := by decide +kernel
abbrev cX1_partOf : ByteArray := prog_3_method_2_code
def yX1_partOf : MethodName := ⟨RX1, "partOf", "(JJI)J"⟩
abbrev cX1_commonDivisor : ByteArray := prog_3_method_3_code
def yX1_commonDivisor : MethodName := ⟨RX1, "commonDivisor", "(JJ)J"⟩
def RX2 : String := "NineMilesOff$Kinds"
def TX2 : u_T := fun k => match k with
  | _ => ("", "", "", false)
def tyX2 : Nat → FieldType := fun k => match k with
  | _ => .int
abbrev wsX20 : List Cond := u_ws RX2 TX2 0
theorem nmX2 : ∀ a, a < 0 → ∀ b, b < 0 → a ≠ b → (TX2 a).2.1 ≠ (TX2 b).2.1 := by decide +kernel
theorem tyX2_ok : ∀ k, k < 0 → parseFieldDescriptor (TX2 k).2.2.1 = some (tyX2 k) := by decide +kernel
abbrev cX2_isKind : ByteArray := prog_4_method_2_code
def yX2_isKind : MethodName := ⟨RX2, "isKind", "(I)Z"⟩
abbrev cX2_heightOf : ByteArray := prog_4_method_3_code
def yX2_heightOf : MethodName := ⟨RX2, "heightOf", "(II)I"⟩
abbrev cX2_isOpen : ByteArray := prog_4_method_4_code
def yX2_isOpen : MethodName := ⟨RX2, "isOpen", "(III)Z"⟩
abbrev cX2_chanceOf : ByteArray := prog_4_method_5_code
def yX2_chanceOf : MethodName := ⟨RX2, "chanceOf", "(II)I"⟩
abbrev cX2_costOf : ByteArray := prog_4_method_6_code
def yX2_costOf : MethodName := ⟨RX2, "costOf", "(II)I"⟩
abbrev cX2_fail : ByteArray := prog_4_method_7_code
def yX2_fail : MethodName := ⟨RX2, "fail", "(II)V"⟩
def RX3 : String := "NineMilesOff$Land"
def TX3 : u_T := fun k => match k with
  | 0 => ("NineMilesOff$Land", "kinds", "[I", true)
  | 1 => ("NineMilesOff$Land", "figures", "[I", true)
  | 2 => ("NineMilesOff$Land", "winter", "I", false)
  | 3 => ("NineMilesOff$Land", "nearest", "I", false)
  | 4 => ("NineMilesOff$Land", "farthest", "I", false)
  | 5 => ("NineMilesOff$Land", "his", "I", false)
  | 6 => ("NineMilesOff$Land", "hers", "I", false)
  | 7 => ("NineMilesOff$Land", "day", "I", false)
  | 8 => ("NineMilesOff$Land", "stopped", "I", false)
  | _ => ("NineMilesOff$Land", "pain", "I", false)
def tyX3 : Nat → FieldType := fun k => match k with
  | 0 => .array .int
  | 1 => .array .int
  | 2 => .int
  | 3 => .int
  | 4 => .int
  | 5 => .int
  | 6 => .int
  | 7 => .int
  | 8 => .int
  | _ => .int
abbrev wsX30 : List Cond := u_ws RX3 TX3 10
theorem nmX3 : ∀ a, a < 10 → ∀ b, b < 10 → a ≠ b → (TX3 a).2.1 ≠ (TX3 b).2.1 := by decide +kernel
theorem tyX3_ok : ∀ k, k < 10 → parseFieldDescriptor (TX3 k).2.2.1 = some (tyX3 k) := by decide +kernel
abbrev cX3_init : ByteArray := prog_5_method_1_code
def yX3_init : MethodName := ⟨RX3, "<init>", "()V"⟩
abbrev cX3_becomes : ByteArray := prog_5_method_2_code
def yX3_becomes : MethodName := ⟨RX3, "becomes", "(LNineMilesOff$Land;)V"⟩
abbrev cX3_kindAt : ByteArray := prog_5_method_3_code
def yX3_kindAt : MethodName := ⟨RX3, "kindAt", "(I)I"⟩
abbrev cX3_figureAt : ByteArray := prog_5_method_4_code
def yX3_figureAt : MethodName := ⟨RX3, "figureAt", "(I)I"⟩
abbrev cX3_heightAt : ByteArray := prog_5_method_5_code
def yX3_heightAt : MethodName := ⟨RX3, "heightAt", "(I)I"⟩
abbrev cX3_isOpen : ByteArray := prog_5_method_6_code
def yX3_isOpen : MethodName := ⟨RX3, "isOpen", "(I)Z"⟩
abbrev cX3_chanceAt : ByteArray := prog_5_method_7_code
def yX3_chanceAt : MethodName := ⟨RX3, "chanceAt", "(I)I"⟩
abbrev cX3_openCells : ByteArray := prog_5_method_8_code
def yX3_openCells : MethodName := ⟨RX3, "openCells", "()J"⟩
abbrev cX3_sureCells : ByteArray := prog_5_method_9_code
def yX3_sureCells : MethodName := ⟨RX3, "sureCells", "()J"⟩
abbrev cX3_unsureCells : ByteArray := prog_5_method_10_code
def yX3_unsureCells : MethodName := ⟨RX3, "unsureCells", "()J"⟩
abbrev cX3_bothStand : ByteArray := prog_5_method_11_code
def yX3_bothStand : MethodName := ⟨RX3, "bothStand", "()Z"⟩
abbrev cX3_farBetween : ByteArray := prog_5_method_12_code
def yX3_farBetween : MethodName := ⟨RX3, "farBetween", "(II)I"⟩
abbrev cX3_layAt : ByteArray := prog_5_method_13_code
def yX3_layAt : MethodName := ⟨RX3, "layAt", "(III)V"⟩
abbrev cX3_place : ByteArray := prog_5_method_14_code
def yX3_place : MethodName := ⟨RX3, "place", "(II)V"⟩
abbrev cX3_cellBy : ByteArray := prog_5_method_15_code
def yX3_cellBy : MethodName := ⟨RX3, "cellBy", "(II)I"⟩
abbrev cX3_cellByOrStay : ByteArray := prog_5_method_16_code
def yX3_cellByOrStay : MethodName := ⟨RX3, "cellByOrStay", "(II)I"⟩
abbrev cX3_goDay : ByteArray := prog_5_method_17_code
def yX3_goDay : MethodName := ⟨RX3, "goDay", "(II)Z"⟩
abbrev cX3_endDay : ByteArray := prog_5_method_18_code
def yX3_endDay : MethodName := ⟨RX3, "endDay", "(II)V"⟩
def RX4 : String := "NineMilesOff$Play"
def TX4 : u_T := fun k => match k with
  | _ => ("NineMilesOff$Play", "fars", "[I", true)
def tyX4 : Nat → FieldType := fun k => match k with
  | _ => .array .int
abbrev wsX40 : List Cond := u_ws RX4 TX4 1
theorem nmX4 : ∀ a, a < 1 → ∀ b, b < 1 → a ≠ b → (TX4 a).2.1 ≠ (TX4 b).2.1 := by decide +kernel
theorem tyX4_ok : ∀ k, k < 1 → parseFieldDescriptor (TX4 k).2.2.1 = some (tyX4 k) := by decide +kernel
abbrev cX4_init : ByteArray := prog_6_method_1_code
def yX4_init : MethodName := ⟨RX4, "<init>", "()V"⟩
abbrev cX4_lay : ByteArray := prog_6_method_2_code
def yX4_lay : MethodName := ⟨RX4, "lay", "(LNineMilesOff$Land;)V"⟩
abbrev cX4_farOf : ByteArray := prog_6_method_3_code
def yX4_farOf : MethodName := ⟨RX4, "farOf", "(II)I"⟩
abbrev cX4_firstHeld : ByteArray := prog_6_method_4_code
def yX4_firstHeld : MethodName := ⟨RX4, "firstHeld", "()I"⟩
abbrev cX4_isHeld : ByteArray := prog_6_method_5_code
def yX4_isHeld : MethodName := ⟨RX4, "isHeld", "(II)Z"⟩
abbrev cX4_leastSure : ByteArray := prog_6_method_6_code
def yX4_leastSure : MethodName := ⟨RX4, "leastSure", "()I"⟩
abbrev cX4_worstOf : ByteArray := prog_6_method_7_code
def yX4_worstOf : MethodName := ⟨RX4, "worstOf", "(I)I"⟩
def RX5 : String := "NineMilesOff$Shelf"
def TX5 : u_T := fun k => match k with
  | 0 => ("NineMilesOff$Shelf", "holds", "I", false)
  | 1 => ("NineMilesOff$Shelf", "kind", "I", false)
  | 2 => ("NineMilesOff$Shelf", "figure", "I", false)
  | 3 => ("NineMilesOff$Shelf", "sort", "I", false)
  | 4 => ("NineMilesOff$Shelf", "size", "I", false)
  | _ => ("NineMilesOff$Shelf", "numbers", "[J", true)
def tyX5 : Nat → FieldType := fun k => match k with
  | 0 => .int
  | 1 => .int
  | 2 => .int
  | 3 => .int
  | 4 => .int
  | _ => .array .long
abbrev wsX50 : List Cond := u_ws RX5 TX5 6
theorem nmX5 : ∀ a, a < 6 → ∀ b, b < 6 → a ≠ b → (TX5 a).2.1 ≠ (TX5 b).2.1 := by decide +kernel
theorem tyX5_ok : ∀ k, k < 6 → parseFieldDescriptor (TX5 k).2.2.1 = some (tyX5 k) := by decide +kernel
abbrev cX5_init : ByteArray := prog_7_method_1_code
def yX5_init : MethodName := ⟨RX5, "<init>", "()V"⟩
abbrev cX5_takeGround : ByteArray := prog_7_method_2_code
def yX5_takeGround : MethodName := ⟨RX5, "takeGround", "(II)V"⟩
abbrev cX5_takeRow : ByteArray := prog_7_method_3_code
def yX5_takeRow : MethodName := ⟨RX5, "takeRow", "(II)V"⟩
abbrev cX5_hasPlace : ByteArray := prog_7_method_4_code
def yX5_hasPlace : MethodName := ⟨RX5, "hasPlace", "(I)Z"⟩
abbrev cX5_hasPlaces : ByteArray := prog_7_method_5_code
def yX5_hasPlaces : MethodName := ⟨RX5, "hasPlaces", "(II)Z"⟩
abbrev cX5_numberAt : ByteArray := prog_7_method_6_code
def yX5_numberAt : MethodName := ⟨RX5, "numberAt", "(I)J"⟩
abbrev cX5_write : ByteArray := prog_7_method_7_code
def yX5_write : MethodName := ⟨RX5, "write", "(II)V"⟩
abbrev cX5_leastNumber : ByteArray := prog_7_method_8_code
def yX5_leastNumber : MethodName := ⟨RX5, "leastNumber", "()J"⟩
def RX6 : String := "NineMilesOff$Snow"
def TX6 : u_T := fun k => match k with
  | _ => ("", "", "", false)
def tyX6 : Nat → FieldType := fun k => match k with
  | _ => .int
abbrev wsX60 : List Cond := u_ws RX6 TX6 0
theorem nmX6 : ∀ a, a < 0 → ∀ b, b < 0 → a ≠ b → (TX6 a).2.1 ≠ (TX6 b).2.1 := by decide +kernel
theorem tyX6_ok : ∀ k, k < 0 → parseFieldDescriptor (TX6 k).2.2.1 = some (tyX6 k) := by decide +kernel
abbrev cX6_likely : ByteArray := prog_8_method_2_code
def yX6_likely : MethodName := ⟨RX6, "likely", "(LNineMilesOff$Land;II)J"⟩
abbrev cX6_passableOf : ByteArray := prog_8_method_3_code
def yX6_passableOf : MethodName := ⟨RX6, "passableOf", "(JI)J"⟩
abbrev cX6_weightOf : ByteArray := prog_8_method_4_code
def yX6_weightOf : MethodName := ⟨RX6, "weightOf", "(LNineMilesOff$Land;JJ)J"⟩
def RX7 : String := "NineMilesOff$Square"
def TX7 : u_T := fun k => match k with
  | _ => ("", "", "", false)
def tyX7 : Nat → FieldType := fun k => match k with
  | _ => .int
abbrev wsX70 : List Cond := u_ws RX7 TX7 0
theorem nmX7 : ∀ a, a < 0 → ∀ b, b < 0 → a ≠ b → (TX7 a).2.1 ≠ (TX7 b).2.1 := by decide +kernel
theorem tyX7_ok : ∀ k, k < 0 → parseFieldDescriptor (TX7 k).2.2.1 = some (tyX7 k) := by decide +kernel
abbrev cX7_bit : ByteArray := prog_9_method_2_code
def yX7_bit : MethodName := ⟨RX7, "bit", "(I)J"⟩
abbrev cX7_has : ByteArray := prog_9_method_3_code
def yX7_has : MethodName := ⟨RX7, "has", "(JI)Z"⟩
abbrev cX7_leastOf : ByteArray := prog_9_method_4_code
def yX7_leastOf : MethodName := ⟨RX7, "leastOf", "(J)I"⟩
abbrev cX7_apart : ByteArray := prog_9_method_5_code
def yX7_apart : MethodName := ⟨RX7, "apart", "(II)I"⟩
abbrev cX7_cellTo : ByteArray := prog_9_method_6_code
def yX7_cellTo : MethodName := ⟨RX7, "cellTo", "(II)I"⟩
abbrev cX7_spread : ByteArray := prog_9_method_7_code
def yX7_spread : MethodName := ⟨RX7, "spread", "(J)J"⟩
abbrev cX7_cellsWithin : ByteArray := prog_9_method_8_code
def yX7_cellsWithin : MethodName := ⟨RX7, "cellsWithin", "(IIJ)J"⟩
abbrev cX7_islandOf : ByteArray := prog_9_method_9_code
def yX7_islandOf : MethodName := ⟨RX7, "islandOf", "(IJ)J"⟩
abbrev cX7_islandsOf : ByteArray := prog_9_method_10_code
def yX7_islandsOf : MethodName := ⟨RX7, "islandsOf", "(J)I"⟩
abbrev cX7_largestIsland : ByteArray := prog_9_method_11_code
def yX7_largestIsland : MethodName := ⟨RX7, "largestIsland", "(J)J"⟩
abbrev cX7_stepsBetween : ByteArray := prog_9_method_12_code
def yX7_stepsBetween : MethodName := ⟨RX7, "stepsBetween", "(IIJ)I"⟩
abbrev cX7_greatestSteps : ByteArray := prog_9_method_13_code
def yX7_greatestSteps : MethodName := ⟨RX7, "greatestSteps", "(IJ)I"⟩
abbrev cX7_middleOf : ByteArray := prog_9_method_14_code
def yX7_middleOf : MethodName := ⟨RX7, "middleOf", "(J)I"⟩
def RX8 : String := "NineMilesOff$Text"
def TX8 : u_T := fun k => match k with
  | _ => ("", "", "", false)
def tyX8 : Nat → FieldType := fun k => match k with
  | _ => .int
abbrev wsX80 : List Cond := u_ws RX8 TX8 0
theorem nmX8 : ∀ a, a < 0 → ∀ b, b < 0 → a ≠ b → (TX8 a).2.1 ≠ (TX8 b).2.1 := by decide +kernel
theorem tyX8_ok : ∀ k, k < 0 → parseFieldDescriptor (TX8 k).2.2.1 = some (tyX8 k) := by decide +kernel
abbrev cX8_digitsBehind : ByteArray := prog_10_method_2_code
def yX8_digitsBehind : MethodName := ⟨RX8, "digitsBehind", "(J)I"⟩
abbrev cX8_firstWrongByte : ByteArray := prog_10_method_3_code
def yX8_firstWrongByte : MethodName := ⟨RX8, "firstWrongByte", "(LNineMilesOff$Shelf;)I"⟩
abbrev cX8_statementsOf : ByteArray := prog_10_method_4_code
def yX8_statementsOf : MethodName := ⟨RX8, "statementsOf", "(LNineMilesOff$Shelf;)I"⟩
abbrev cX8_firstNotDone : ByteArray := prog_10_method_5_code
def yX8_firstNotDone : MethodName := ⟨RX8, "firstNotDone", "(LNineMilesOff$Shelf;LNineMilesOff$Land;)I"⟩
abbrev cX8_digitAt : ByteArray := prog_10_method_6_code
def yX8_digitAt : MethodName := ⟨RX8, "digitAt", "(LNineMilesOff$Shelf;I)I"⟩
abbrev cX8_twoDigitsAt : ByteArray := prog_10_method_7_code
def yX8_twoDigitsAt : MethodName := ⟨RX8, "twoDigitsAt", "(LNineMilesOff$Shelf;I)I"⟩
abbrev cX8_isDone : ByteArray := prog_10_method_8_code
def yX8_isDone : MethodName := ⟨RX8, "isDone", "(LNineMilesOff$Shelf;ILNineMilesOff$Land;)Z"⟩
abbrev cX8_isLaid : ByteArray := prog_10_method_9_code
def yX8_isLaid : MethodName := ⟨RX8, "isLaid", "(LNineMilesOff$Shelf;ILNineMilesOff$Land;)Z"⟩
abbrev cX8_isPlaced : ByteArray := prog_10_method_10_code
def yX8_isPlaced : MethodName := ⟨RX8, "isPlaced", "(IILNineMilesOff$Land;)Z"⟩
abbrev cX8_isBound : ByteArray := prog_10_method_11_code
def yX8_isBound : MethodName := ⟨RX8, "isBound", "(LNineMilesOff$Shelf;ILNineMilesOff$Land;)Z"⟩
abbrev cX8_isWintered : ByteArray := prog_10_method_12_code
def yX8_isWintered : MethodName := ⟨RX8, "isWintered", "(ILNineMilesOff$Land;)Z"⟩
def RX9 : String := "NineMilesOff$Track"
def TX9 : u_T := fun k => match k with
  | 0 => ("NineMilesOff$Track", "hers", "[J", true)
  | 1 => ("NineMilesOff$Track", "left", "[J", true)
  | _ => ("NineMilesOff$Track", "leftThen", "[J", true)
def tyX9 : Nat → FieldType := fun k => match k with
  | 0 => .array .long
  | 1 => .array .long
  | _ => .array .long
abbrev wsX90 : List Cond := u_ws RX9 TX9 3
theorem nmX9 : ∀ a, a < 3 → ∀ b, b < 3 → a ≠ b → (TX9 a).2.1 ≠ (TX9 b).2.1 := by decide +kernel
theorem tyX9_ok : ∀ k, k < 3 → parseFieldDescriptor (TX9 k).2.2.1 = some (tyX9 k) := by decide +kernel
abbrev cX9_init : ByteArray := prog_11_method_1_code
def yX9_init : MethodName := ⟨RX9, "<init>", "()V"⟩
abbrev cX9_isOfCells : ByteArray := prog_11_method_2_code
def yX9_isOfCells : MethodName := ⟨RX9, "isOfCells", "(LNineMilesOff$Shelf;)Z"⟩
abbrev cX9_firstWrongPlace : ByteArray := prog_11_method_3_code
def yX9_firstWrongPlace : MethodName := ⟨RX9, "firstWrongPlace", "(LNineMilesOff$Shelf;LNineMilesOff$Land;)I"⟩
abbrev cX9_fitOn : ByteArray := prog_11_method_4_code
def yX9_fitOn : MethodName := ⟨RX9, "fitOn", "(LNineMilesOff$Shelf;ILNineMilesOff$Board;J)J"⟩
abbrev cX9_follow : ByteArray := prog_11_method_5_code
def yX9_follow : MethodName := ⟨RX9, "follow", "(LNineMilesOff$Shelf;LNineMilesOff$Board;J)J"⟩
abbrev cX9_bestDay : ByteArray := prog_11_method_6_code
def yX9_bestDay : MethodName := ⟨RX9, "bestDay", "(LNineMilesOff$Shelf;LNineMilesOff$Board;J)I"⟩
abbrev cX9_leftAround : ByteArray := prog_11_method_7_code
def yX9_leftAround : MethodName := ⟨RX9, "leftAround", "(I)J"⟩
abbrev cX9_worstOf : ByteArray := prog_11_method_8_code
def yX9_worstOf : MethodName := ⟨RX9, "worstOf", "(J)I"⟩
def RX10 : String := "NineMilesOff"
def TX10 : u_T := fun k => match k with
  | 0 => ("NineMilesOff", "now", "LNineMilesOff$Land;", true)
  | 1 => ("NineMilesOff", "kept", "LNineMilesOff$Land;", true)
  | 2 => ("NineMilesOff", "trial", "LNineMilesOff$Land;", true)
  | 3 => ("NineMilesOff", "taken", "Z", false)
  | 4 => ("NineMilesOff", "board", "LNineMilesOff$Board;", true)
  | 5 => ("NineMilesOff", "track", "LNineMilesOff$Track;", true)
  | 6 => ("NineMilesOff", "play", "LNineMilesOff$Play;", true)
  | 7 => ("NineMilesOff", "shelves", "[LNineMilesOff$Shelf;", true)
  | _ => ("NineMilesOff", "noShelf", "LNineMilesOff$Shelf;", true)
def tyX10 : Nat → FieldType := fun k => match k with
  | 0 => .object "NineMilesOff$Land"
  | 1 => .object "NineMilesOff$Land"
  | 2 => .object "NineMilesOff$Land"
  | 3 => .boolean
  | 4 => .object "NineMilesOff$Board"
  | 5 => .object "NineMilesOff$Track"
  | 6 => .object "NineMilesOff$Play"
  | 7 => .array (.object "NineMilesOff$Shelf")
  | _ => .object "NineMilesOff$Shelf"
abbrev wsX100 : List Cond := u_ws RX10 TX10 9
theorem nmX10 : ∀ a, a < 9 → ∀ b, b < 9 → a ≠ b → (TX10 a).2.1 ≠ (TX10 b).2.1 := by decide +kernel
theorem tyX10_ok : ∀ k, k < 9 → parseFieldDescriptor (TX10 k).2.2.1 = some (tyX10 k) := by decide +kernel
abbrev cX10_init : ByteArray := prog_1_method_1_code
def yX10_init : MethodName := ⟨RX10, "<init>", "()V"⟩
abbrev cX10_land : ByteArray := prog_1_method_2_code
def yX10_land : MethodName := ⟨RX10, "land", "(I)I"⟩
abbrev cX10_ground : ByteArray := prog_1_method_3_code
def yX10_ground : MethodName := ⟨RX10, "ground", "(II)I"⟩
abbrev cX10_lays : ByteArray := prog_1_method_4_code
def yX10_lays : MethodName := ⟨RX10, "lays", "(II)I"⟩
abbrev cX10_stands : ByteArray := prog_1_method_5_code
def yX10_stands : MethodName := ⟨RX10, "stands", "(II)I"⟩
abbrev cX10_set : ByteArray := prog_1_method_6_code
def yX10_set : MethodName := ⟨RX10, "set", "(II)I"⟩
abbrev cX10_go : ByteArray := prog_1_method_7_code
def yX10_go : MethodName := ⟨RX10, "go", "(II)I"⟩
abbrev cX10_far : ByteArray := prog_1_method_8_code
def yX10_far : MethodName := ⟨RX10, "far", "(II)I"⟩
abbrev cX10_steps : ByteArray := prog_1_method_9_code
def yX10_steps : MethodName := ⟨RX10, "steps", "(II)I"⟩
abbrev cX10_pairs : ByteArray := prog_1_method_10_code
def yX10_pairs : MethodName := ⟨RX10, "pairs", "(I)I"⟩
abbrev cX10_islands : ByteArray := prog_1_method_11_code
def yX10_islands : MethodName := ⟨RX10, "islands", "()I"⟩
abbrev cX10_island : ByteArray := prog_1_method_12_code
def yX10_island : MethodName := ⟨RX10, "island", "(I)I"⟩
abbrev cX10_middle : ByteArray := prog_1_method_13_code
def yX10_middle : MethodName := ⟨RX10, "middle", "(I)I"⟩
abbrev cX10_see : ByteArray := prog_1_method_14_code
def yX10_see : MethodName := ⟨RX10, "see", "(II)I"⟩
abbrev cX10_way : ByteArray := prog_1_method_15_code
def yX10_way : MethodName := ⟨RX10, "way", "(III)I"⟩
abbrev cX10_hinders : ByteArray := prog_1_method_16_code
def yX10_hinders : MethodName := ⟨RX10, "hinders", "(II)I"⟩
abbrev cX10_needs : ByteArray := prog_1_method_17_code
def yX10_needs : MethodName := ⟨RX10, "needs", "(II)I"⟩
abbrev cX10_within : ByteArray := prog_1_method_18_code
def yX10_within : MethodName := ⟨RX10, "within", "(I)I"⟩
abbrev cX10_ways : ByteArray := prog_1_method_19_code
def yX10_ways : MethodName := ⟨RX10, "ways", "(I)J"⟩
abbrev cX10_rounds : ByteArray := prog_1_method_20_code
def yX10_rounds : MethodName := ⟨RX10, "rounds", "(I)J"⟩
abbrev cX10_late : ByteArray := prog_1_method_21_code
def yX10_late : MethodName := ⟨RX10, "late", "(II)I"⟩
abbrev cX10_hisWay : ByteArray := prog_1_method_22_code
def yX10_hisWay : MethodName := ⟨RX10, "hisWay", "(II)J"⟩
abbrev cX10_letter : ByteArray := prog_1_method_23_code
def yX10_letter : MethodName := ⟨RX10, "letter", "(I)I"⟩
abbrev cX10_third : ByteArray := prog_1_method_24_code
def yX10_third : MethodName := ⟨RX10, "third", "(I)I"⟩
abbrev cX10_game : ByteArray := prog_1_method_25_code
def yX10_game : MethodName := ⟨RX10, "game", "(I)I"⟩
abbrev cX10_snow : ByteArray := prog_1_method_26_code
def yX10_snow : MethodName := ⟨RX10, "snow", "(III)J"⟩
abbrev cX10_mean : ByteArray := prog_1_method_27_code
def yX10_mean : MethodName := ⟨RX10, "mean", "(I)J"⟩
abbrev cX10_curve : ByteArray := prog_1_method_28_code
def yX10_curve : MethodName := ⟨RX10, "curve", "(I)I"⟩
abbrev cX10_judge : ByteArray := prog_1_method_29_code
def yX10_judge : MethodName := ⟨RX10, "judge", "(I)I"⟩
abbrev cX10_seeds : ByteArray := prog_1_method_30_code
def yX10_seeds : MethodName := ⟨RX10, "seeds", "(III)I"⟩
abbrev cX10_image : ByteArray := prog_1_method_31_code
def yX10_image : MethodName := ⟨RX10, "image", "()I"⟩
abbrev cX10_restore : ByteArray := prog_1_method_32_code
def yX10_restore : MethodName := ⟨RX10, "restore", "()I"⟩
abbrev cX10_count : ByteArray := prog_1_method_33_code
def yX10_count : MethodName := ⟨RX10, "count", "(I)I"⟩
abbrev cX10_keep : ByteArray := prog_1_method_34_code
def yX10_keep : MethodName := ⟨RX10, "keep", "(IIII)I"⟩
abbrev cX10_row : ByteArray := prog_1_method_35_code
def yX10_row : MethodName := ⟨RX10, "row", "(III)I"⟩
abbrev cX10_put : ByteArray := prog_1_method_36_code
def yX10_put : MethodName := ⟨RX10, "put", "(III)I"⟩
abbrev cX10_element : ByteArray := prog_1_method_37_code
def yX10_element : MethodName := ⟨RX10, "element", "(II)J"⟩
abbrev cX10_copy : ByteArray := prog_1_method_38_code
def yX10_copy : MethodName := ⟨RX10, "copy", "(IIIII)I"⟩
abbrev cX10_cost : ByteArray := prog_1_method_39_code
def yX10_cost : MethodName := ⟨RX10, "cost", "(I)I"⟩
abbrev cX10_toss : ByteArray := prog_1_method_40_code
def yX10_toss : MethodName := ⟨RX10, "toss", "(I)I"⟩
abbrev cX10_isCell : ByteArray := prog_1_method_41_code
def yX10_isCell : MethodName := ⟨RX10, "isCell", "(J)Z"⟩
abbrev cX10_isWay : ByteArray := prog_1_method_42_code
def yX10_isWay : MethodName := ⟨RX10, "isWay", "(I)Z"⟩
abbrev cX10_isEither : ByteArray := prog_1_method_43_code
def yX10_isEither : MethodName := ⟨RX10, "isEither", "(I)Z"⟩
abbrev cX10_isDistance : ByteArray := prog_1_method_44_code
def yX10_isDistance : MethodName := ⟨RX10, "isDistance", "(I)Z"⟩
abbrev cX10_isShelf : ByteArray := prog_1_method_45_code
def yX10_isShelf : MethodName := ⟨RX10, "isShelf", "(I)Z"⟩
abbrev cX10_shelfAt : ByteArray := prog_1_method_46_code
def yX10_shelfAt : MethodName := ⟨RX10, "shelfAt", "(I)LNineMilesOff$Shelf;"⟩
abbrev cX10_refusalOfRow : ByteArray := prog_1_method_47_code
def yX10_refusalOfRow : MethodName := ⟨RX10, "refusalOfRow", "(I)I"⟩
abbrev cX10_refusalOfGround : ByteArray := prog_1_method_48_code
def yX10_refusalOfGround : MethodName := ⟨RX10, "refusalOfGround", "(I)I"⟩
abbrev cX10_refusalUnless : ByteArray := prog_1_method_49_code
def yX10_refusalUnless : MethodName := ⟨RX10, "refusalUnless", "(II)I"⟩
abbrev cX10_refusalOfTrack : ByteArray := prog_1_method_50_code
def yX10_refusalOfTrack : MethodName := ⟨RX10, "refusalOfTrack", "(I)I"⟩
abbrev cX10_refusalToSee : ByteArray := prog_1_method_51_code
def yX10_refusalToSee : MethodName := ⟨RX10, "refusalToSee", "(II)I"⟩
abbrev cX10_refusalToCount : ByteArray := prog_1_method_52_code
def yX10_refusalToCount : MethodName := ⟨RX10, "refusalToCount", "(I)I"⟩
abbrev cX10_ofLongs : ByteArray := prog_1_method_53_code
def yX10_ofLongs : MethodName := ⟨RX10, "ofLongs", "(I)J"⟩
abbrev cX10_nextSeed : ByteArray := prog_1_method_54_code
def yX10_nextSeed : MethodName := ⟨RX10, "nextSeed", "(I)I"⟩
abbrev cX10_drawOf : ByteArray := prog_1_method_55_code
def yX10_drawOf : MethodName := ⟨RX10, "drawOf", "(I)I"⟩
def RX11 : String := "NineMilesOffModel"
def TX11 : u_T := fun k => match k with
  | 0 => ("NineMilesOffModel", "kinds", "[I", true)
  | 1 => ("NineMilesOffModel", "figures", "[I", true)
  | 2 => ("NineMilesOffModel", "winter", "I", false)
  | 3 => ("NineMilesOffModel", "nearest", "I", false)
  | 4 => ("NineMilesOffModel", "farthest", "I", false)
  | 5 => ("NineMilesOffModel", "his", "I", false)
  | 6 => ("NineMilesOffModel", "hers", "I", false)
  | 7 => ("NineMilesOffModel", "day", "I", false)
  | 8 => ("NineMilesOffModel", "stopped", "I", false)
  | 9 => ("NineMilesOffModel", "pain", "I", false)
  | 10 => ("NineMilesOffModel", "holdsWhat", "[I", true)
  | 11 => ("NineMilesOffModel", "keptKind", "[I", true)
  | 12 => ("NineMilesOffModel", "keptFigure", "[I", true)
  | 13 => ("NineMilesOffModel", "rowSort", "[I", true)
  | 14 => ("NineMilesOffModel", "rowMany", "[I", true)
  | 15 => ("NineMilesOffModel", "rows", "[J", true)
  | 16 => ("NineMilesOffModel", "thrown", "I", false)
  | 17 => ("NineMilesOffModel", "thoughtOpen", "I", false)
  | 18 => ("NineMilesOffModel", "reading", "I", false)
  | 19 => ("NineMilesOffModel", "at", "I", false)
  | 20 => ("NineMilesOffModel", "isBad", "Z", false)
  | 21 => ("NineMilesOffModel", "statements", "I", false)
  | 22 => ("NineMilesOffModel", "placeIn", "[I", true)
  | 23 => ("NineMilesOffModel", "letterOf", "[I", true)
  | 24 => ("NineMilesOffModel", "told", "[I", true)
  | 25 => ("NineMilesOffModel", "kept", "[I", true)
  | 26 => ("NineMilesOffModel", "imaged", "[I", true)
  | 27 => ("NineMilesOffModel", "hasImage", "Z", false)
  | 28 => ("NineMilesOffModel", "place0", "I", false)
  | 29 => ("NineMilesOffModel", "isTaking", "Z", false)
  | 30 => ("NineMilesOffModel", "keptIn", "[I", false)
  | 31 => ("NineMilesOffModel", "steps", "[I", true)
  | 32 => ("NineMilesOffModel", "days", "[I", true)
  | 33 => ("NineMilesOffModel", "queue", "[I", true)
  | 34 => ("NineMilesOffModel", "waysTo", "[J", true)
  | 35 => ("NineMilesOffModel", "waysThen", "[J", true)
  | 36 => ("NineMilesOffModel", "unsure", "[I", true)
  | 37 => ("NineMilesOffModel", "seed", "I", false)
  | _ => ("NineMilesOffModel", "between", "[J", true)
def tyX11 : Nat → FieldType := fun k => match k with
  | 0 => .array .int
  | 1 => .array .int
  | 2 => .int
  | 3 => .int
  | 4 => .int
  | 5 => .int
  | 6 => .int
  | 7 => .int
  | 8 => .int
  | 9 => .int
  | 10 => .array .int
  | 11 => .array .int
  | 12 => .array .int
  | 13 => .array .int
  | 14 => .array .int
  | 15 => .array .long
  | 16 => .int
  | 17 => .int
  | 18 => .int
  | 19 => .int
  | 20 => .boolean
  | 21 => .int
  | 22 => .array .int
  | 23 => .array .int
  | 24 => .array .int
  | 25 => .array .int
  | 26 => .array .int
  | 27 => .boolean
  | 28 => .int
  | 29 => .boolean
  | 30 => .array .int
  | 31 => .array .int
  | 32 => .array .int
  | 33 => .array .int
  | 34 => .array .long
  | 35 => .array .long
  | 36 => .array .int
  | 37 => .int
  | _ => .array .long
abbrev wsX110 : List Cond := u_ws RX11 TX11 39
theorem nmX11 : ∀ a, a < 39 → ∀ b, b < 39 → a ≠ b → (TX11 a).2.1 ≠ (TX11 b).2.1 := by decide +kernel
theorem tyX11_ok : ∀ k, k < 39 → parseFieldDescriptor (TX11 k).2.2.1 = some (tyX11 k) := by decide +kernel
abbrev cX11_init : ByteArray := prog_13_method_1_code
def yX11_init : MethodName := ⟨RX11, "<init>", "()V"⟩
abbrev cX11_thrown : ByteArray := prog_13_method_2_code
def yX11_thrown : MethodName := ⟨RX11, "thrown", "()I"⟩
abbrev cX11_in : ByteArray := prog_13_method_3_code
def yX11_in : MethodName := ⟨RX11, "in", "(JJJ)Z"⟩
abbrev cX11_isCell : ByteArray := prog_13_method_4_code
def yX11_isCell : MethodName := ⟨RX11, "isCell", "(J)Z"⟩
abbrev cX11_plainly : ByteArray := prog_13_method_5_code
def yX11_plainly : MethodName := ⟨RX11, "plainly", "(I)I"⟩
abbrev cX11_isOn : ByteArray := prog_13_method_6_code
def yX11_isOn : MethodName := ⟨RX11, "isOn", "(JI)Z"⟩
abbrev cX11_onesOf : ByteArray := prog_13_method_7_code
def yX11_onesOf : MethodName := ⟨RX11, "onesOf", "(J)I"⟩
abbrev cX11_heightOf : ByteArray := prog_13_method_8_code
def yX11_heightOf : MethodName := ⟨RX11, "heightOf", "(I)I"⟩
abbrev cX11_isOpen : ByteArray := prog_13_method_9_code
def yX11_isOpen : MethodName := ⟨RX11, "isOpen", "(I)Z"⟩
abbrev cX11_chanceOf : ByteArray := prog_13_method_10_code
def yX11_chanceOf : MethodName := ⟨RX11, "chanceOf", "(I)I"⟩
abbrev cX11_farOf : ByteArray := prog_13_method_11_code
def yX11_farOf : MethodName := ⟨RX11, "farOf", "(II)I"⟩
abbrev cX11_isOff : ByteArray := prog_13_method_12_code
def yX11_isOff : MethodName := ⟨RX11, "isOff", "(II)Z"⟩
abbrev cX11_beside : ByteArray := prog_13_method_13_code
def yX11_beside : MethodName := ⟨RX11, "beside", "(II)I"⟩
abbrev cX11_goneTo : ByteArray := prog_13_method_14_code
def yX11_goneTo : MethodName := ⟨RX11, "goneTo", "(II)I"⟩
abbrev cX11_openCells : ByteArray := prog_13_method_15_code
def yX11_openCells : MethodName := ⟨RX11, "openCells", "()J"⟩
abbrev cX11_goOn : ByteArray := prog_13_method_16_code
def yX11_goOn : MethodName := ⟨RX11, "goOn", "(J)J"⟩
abbrev cX11_here : ByteArray := prog_13_method_17_code
def yX11_here : MethodName := ⟨RX11, "here", "()I"⟩
abbrev cX11_readDigits : ByteArray := prog_13_method_18_code
def yX11_readDigits : MethodName := ⟨RX11, "readDigits", "(I)I"⟩
abbrev cX11_isLetter : ByteArray := prog_13_method_19_code
def yX11_isLetter : MethodName := ⟨RX11, "isLetter", "(I)Z"⟩
abbrev cX11_readStatement : ByteArray := prog_13_method_20_code
def yX11_readStatement : MethodName := ⟨RX11, "readStatement", "()V"⟩
abbrev cX11_canGo : ByteArray := prog_13_method_21_code
def yX11_canGo : MethodName := ⟨RX11, "canGo", "(II)Z"⟩
abbrev cX11_goBoth : ByteArray := prog_13_method_22_code
def yX11_goBoth : MethodName := ⟨RX11, "goBoth", "(II)V"⟩
abbrev cX11_comes : ByteArray := prog_13_method_23_code
def yX11_comes : MethodName := ⟨RX11, "comes", "(I)Z"⟩
abbrev cX11_land : ByteArray := prog_13_method_24_code
def yX11_land : MethodName := ⟨RX11, "land", "(I)I"⟩
abbrev cX11_carry : ByteArray := prog_13_method_25_code
def yX11_carry : MethodName := ⟨RX11, "carry", "(I)I"⟩
abbrev cX11_carryAll : ByteArray := prog_13_method_26_code
def yX11_carryAll : MethodName := ⟨RX11, "carryAll", "([IZ)V"⟩
abbrev cX11_image : ByteArray := prog_13_method_27_code
def yX11_image : MethodName := ⟨RX11, "image", "()I"⟩
abbrev cX11_restore : ByteArray := prog_13_method_28_code
def yX11_restore : MethodName := ⟨RX11, "restore", "()I"⟩
abbrev cX11_ground : ByteArray := prog_13_method_29_code
def yX11_ground : MethodName := ⟨RX11, "ground", "(II)I"⟩
abbrev cX11_wrongKept : ByteArray := prog_13_method_30_code
def yX11_wrongKept : MethodName := ⟨RX11, "wrongKept", "(I)I"⟩
abbrev cX11_lays : ByteArray := prog_13_method_31_code
def yX11_lays : MethodName := ⟨RX11, "lays", "(II)I"⟩
abbrev cX11_stands : ByteArray := prog_13_method_32_code
def yX11_stands : MethodName := ⟨RX11, "stands", "(II)I"⟩
abbrev cX11_set : ByteArray := prog_13_method_33_code
def yX11_set : MethodName := ⟨RX11, "set", "(II)I"⟩
abbrev cX11_go : ByteArray := prog_13_method_34_code
def yX11_go : MethodName := ⟨RX11, "go", "(II)I"⟩
abbrev cX11_far : ByteArray := prog_13_method_35_code
def yX11_far : MethodName := ⟨RX11, "far", "(II)I"⟩
abbrev cX11_layStepsFrom : ByteArray := prog_13_method_36_code
def yX11_layStepsFrom : MethodName := ⟨RX11, "layStepsFrom", "(I)V"⟩
abbrev cX11_steps : ByteArray := prog_13_method_37_code
def yX11_steps : MethodName := ⟨RX11, "steps", "(II)I"⟩
abbrev cX11_isPair : ByteArray := prog_13_method_38_code
def yX11_isPair : MethodName := ⟨RX11, "isPair", "(II)Z"⟩
abbrev cX11_pairMany : ByteArray := prog_13_method_39_code
def yX11_pairMany : MethodName := ⟨RX11, "pairMany", "()I"⟩
abbrev cX11_pairs : ByteArray := prog_13_method_40_code
def yX11_pairs : MethodName := ⟨RX11, "pairs", "(I)I"⟩
abbrev cX11_partWith : ByteArray := prog_13_method_41_code
def yX11_partWith : MethodName := ⟨RX11, "partWith", "(I)J"⟩
abbrev cX11_islands : ByteArray := prog_13_method_42_code
def yX11_islands : MethodName := ⟨RX11, "islands", "()I"⟩
abbrev cX11_island : ByteArray := prog_13_method_43_code
def yX11_island : MethodName := ⟨RX11, "island", "(I)I"⟩
abbrev cX11_middle : ByteArray := prog_13_method_44_code
def yX11_middle : MethodName := ⟨RX11, "middle", "(I)I"⟩
abbrev cX11_layDaysFrom : ByteArray := prog_13_method_45_code
def yX11_layDaysFrom : MethodName := ⟨RX11, "layDaysFrom", "(II)V"⟩
abbrev cX11_areBoth : ByteArray := prog_13_method_46_code
def yX11_areBoth : MethodName := ⟨RX11, "areBoth", "()Z"⟩
abbrev cX11_wrongTwo : ByteArray := prog_13_method_47_code
def yX11_wrongTwo : MethodName := ⟨RX11, "wrongTwo", "(II)I"⟩
abbrev cX11_seeDays : ByteArray := prog_13_method_48_code
def yX11_seeDays : MethodName := ⟨RX11, "seeDays", "(II)I"⟩
abbrev cX11_see : ByteArray := prog_13_method_49_code
def yX11_see : MethodName := ⟨RX11, "see", "(II)I"⟩
abbrev cX11_way : ByteArray := prog_13_method_50_code
def yX11_way : MethodName := ⟨RX11, "way", "(III)I"⟩
abbrev cX11_hinders : ByteArray := prog_13_method_51_code
def yX11_hinders : MethodName := ⟨RX11, "hinders", "(II)I"⟩
abbrev cX11_needs : ByteArray := prog_13_method_52_code
def yX11_needs : MethodName := ⟨RX11, "needs", "(II)I"⟩
abbrev cX11_within : ByteArray := prog_13_method_53_code
def yX11_within : MethodName := ⟨RX11, "within", "(I)I"⟩
abbrev cX11_layWays : ByteArray := prog_13_method_54_code
def yX11_layWays : MethodName := ⟨RX11, "layWays", "(I)V"⟩
abbrev cX11_wrongWays : ByteArray := prog_13_method_55_code
def yX11_wrongWays : MethodName := ⟨RX11, "wrongWays", "(I)I"⟩
abbrev cX11_ways : ByteArray := prog_13_method_56_code
def yX11_ways : MethodName := ⟨RX11, "ways", "(I)J"⟩
abbrev cX11_rounds : ByteArray := prog_13_method_57_code
def yX11_rounds : MethodName := ⟨RX11, "rounds", "(I)J"⟩
abbrev cX11_late : ByteArray := prog_13_method_58_code
def yX11_late : MethodName := ⟨RX11, "late", "(II)I"⟩
abbrev cX11_wrongCells : ByteArray := prog_13_method_59_code
def yX11_wrongCells : MethodName := ⟨RX11, "wrongCells", "(I)I"⟩
abbrev cX11_notOff : ByteArray := prog_13_method_60_code
def yX11_notOff : MethodName := ⟨RX11, "notOff", "(IIJ)J"⟩
abbrev cX11_toTheLast : ByteArray := prog_13_method_61_code
def yX11_toTheLast : MethodName := ⟨RX11, "toTheLast", "(IIJ)J"⟩
abbrev cX11_hisWay : ByteArray := prog_13_method_62_code
def yX11_hisWay : MethodName := ⟨RX11, "hisWay", "(II)J"⟩
abbrev cX11_letter : ByteArray := prog_13_method_63_code
def yX11_letter : MethodName := ⟨RX11, "letter", "(I)I"⟩
abbrev cX11_third : ByteArray := prog_13_method_64_code
def yX11_third : MethodName := ⟨RX11, "third", "(I)I"⟩
abbrev cX11_farBy : ByteArray := prog_13_method_65_code
def yX11_farBy : MethodName := ⟨RX11, "farBy", "(II)I"⟩
abbrev cX11_rests : ByteArray := prog_13_method_66_code
def yX11_rests : MethodName := ⟨RX11, "rests", "(II)Z"⟩
abbrev cX11_game : ByteArray := prog_13_method_67_code
def yX11_game : MethodName := ⟨RX11, "game", "(I)I"⟩
abbrev cX11_divisor : ByteArray := prog_13_method_68_code
def yX11_divisor : MethodName := ⟨RX11, "divisor", "(JJ)J"⟩
abbrev cX11_partOf : ByteArray := prog_13_method_69_code
def yX11_partOf : MethodName := ⟨RX11, "partOf", "(JJI)J"⟩
abbrev cX11_isWay : ByteArray := prog_13_method_70_code
def yX11_isWay : MethodName := ⟨RX11, "isWay", "(JII)Z"⟩
abbrev cX11_snow : ByteArray := prog_13_method_71_code
def yX11_snow : MethodName := ⟨RX11, "snow", "(III)J"⟩
abbrev cX11_mean : ByteArray := prog_13_method_72_code
def yX11_mean : MethodName := ⟨RX11, "mean", "(I)J"⟩
abbrev cX11_curve : ByteArray := prog_13_method_73_code
def yX11_curve : MethodName := ⟨RX11, "curve", "(I)I"⟩
abbrev cX11_skipped : ByteArray := prog_13_method_74_code
def yX11_skipped : MethodName := ⟨RX11, "skipped", "(I)J"⟩
abbrev cX11_stayOrGo : ByteArray := prog_13_method_75_code
def yX11_stayOrGo : MethodName := ⟨RX11, "stayOrGo", "(J)J"⟩
abbrev cX11_judge : ByteArray := prog_13_method_76_code
def yX11_judge : MethodName := ⟨RX11, "judge", "(I)I"⟩
abbrev cX11_drawBelow : ByteArray := prog_13_method_77_code
def yX11_drawBelow : MethodName := ⟨RX11, "drawBelow", "(I)I"⟩
abbrev cX11_seeds : ByteArray := prog_13_method_78_code
def yX11_seeds : MethodName := ⟨RX11, "seeds", "(III)I"⟩
abbrev cX11_count : ByteArray := prog_13_method_79_code
def yX11_count : MethodName := ⟨RX11, "count", "(I)I"⟩
abbrev cX11_keep : ByteArray := prog_13_method_80_code
def yX11_keep : MethodName := ⟨RX11, "keep", "(IIII)I"⟩
abbrev cX11_wrongRow : ByteArray := prog_13_method_81_code
def yX11_wrongRow : MethodName := ⟨RX11, "wrongRow", "(I)I"⟩
abbrev cX11_narrowed : ByteArray := prog_13_method_82_code
def yX11_narrowed : MethodName := ⟨RX11, "narrowed", "(II)J"⟩
abbrev cX11_row : ByteArray := prog_13_method_83_code
def yX11_row : MethodName := ⟨RX11, "row", "(III)I"⟩
abbrev cX11_put : ByteArray := prog_13_method_84_code
def yX11_put : MethodName := ⟨RX11, "put", "(III)I"⟩
abbrev cX11_element : ByteArray := prog_13_method_85_code
def yX11_element : MethodName := ⟨RX11, "element", "(II)J"⟩
abbrev cX11_copy : ByteArray := prog_13_method_86_code
def yX11_copy : MethodName := ⟨RX11, "copy", "(IIIII)I"⟩
abbrev cX11_costOf : ByteArray := prog_13_method_87_code
def yX11_costOf : MethodName := ⟨RX11, "costOf", "(II)I"⟩
abbrev cX11_cost : ByteArray := prog_13_method_88_code
def yX11_cost : MethodName := ⟨RX11, "cost", "(I)I"⟩
abbrev cX11_toss : ByteArray := prog_13_method_89_code
def yX11_toss : MethodName := ⟨RX11, "toss", "(I)I"⟩
def RJx145de : String := "java/io/Serializable"
def TJx145de : u_T := fun k => match k with
  | _ => ("", "", "", false)
def tyJx145de : Nat → FieldType := fun k => match k with
  | _ => .int
abbrev wsJx145de0 : List Cond := u_ws RJx145de TJx145de 0
theorem nmJx145de : ∀ a, a < 0 → ∀ b, b < 0 → a ≠ b → (TJx145de a).2.1 ≠ (TJx145de b).2.1 := by decide +kernel
theorem tyJx145de_ok : ∀ k, k < 0 → parseFieldDescriptor (TJx145de k).2.2.1 = some (tyJx145de k) := by decide +kernel
def RJ13 : String := "java/lang/Long"
def TJ13 : u_T := fun k => match k with
  | _ => ("", "", "", false)
def tyJ13 : Nat → FieldType := fun k => match k with
  | _ => .int
abbrev wsJ130 : List Cond := u_ws RJ13 TJ13 0
theorem nmJ13 : ∀ a, a < 0 → ∀ b, b < 0 → a ≠ b → (TJ13 a).2.1 ≠ (TJ13 b).2.1 := by decide +kernel
theorem tyJ13_ok : ∀ k, k < 0 → parseFieldDescriptor (TJ13 k).2.2.1 = some (tyJ13 k) := by decide +kernel
abbrev cJ13_bitCount_95d88 : ByteArray := prog_17_method_50_code
def yJ13_bitCount_95d88 : MethodName := ⟨RJ13, "bitCount", "(J)I"⟩
def RJ9 : String := "java/lang/Math"
def TJ9 : u_T := fun k => match k with
  | _ => ("", "", "", false)
def tyJ9 : Nat → FieldType := fun k => match k with
  | _ => .int
abbrev wsJ90 : List Cond := u_ws RJ9 TJ9 0
theorem nmJ9 : ∀ a, a < 0 → ∀ b, b < 0 → a ≠ b → (TJ9 a).2.1 ≠ (TJ9 b).2.1 := by decide +kernel
theorem tyJ9_ok : ∀ k, k < 0 → parseFieldDescriptor (TJ9 k).2.2.1 = some (tyJ9 k) := by decide +kernel
abbrev cJ9_abs_0f7a4 : ByteArray := prog_18_method_59_code
def yJ9_abs_0f7a4 : MethodName := ⟨RJ9, "abs", "(I)I"⟩
abbrev cJ9_max_7cf53 : ByteArray := prog_18_method_65_code
def yJ9_max_7cf53 : MethodName := ⟨RJ9, "max", "(II)I"⟩
abbrev cJ9_min_7cf53 : ByteArray := prog_18_method_69_code
def yJ9_min_7cf53 : MethodName := ⟨RJ9, "min", "(II)I"⟩
def RJ0 : String := "java/lang/String"
def TJ0 : u_T := fun k => match k with
  | _ => ("", "", "", false)
def tyJ0 : Nat → FieldType := fun k => match k with
  | _ => .int
abbrev wsJ00 : List Cond := u_ws RJ0 TJ0 0
theorem nmJ0 : ∀ a, a < 0 → ∀ b, b < 0 → a ≠ b → (TJ0 a).2.1 ≠ (TJ0 b).2.1 := by decide +kernel
theorem tyJ0_ok : ∀ k, k < 0 → parseFieldDescriptor (TJ0 k).2.2.1 = some (tyJ0 k) := by decide +kernel
def RJ10 : String := "java/lang/System"
def TJ10 : u_T := fun k => match k with
  | _ => ("", "", "", false)
def tyJ10 : Nat → FieldType := fun k => match k with
  | _ => .int
abbrev wsJ100 : List Cond := u_ws RJ10 TJ10 0
theorem nmJ10 : ∀ a, a < 0 → ∀ b, b < 0 → a ≠ b → (TJ10 a).2.1 ≠ (TJ10 b).2.1 := by decide +kernel
theorem tyJ10_ok : ∀ k, k < 0 → parseFieldDescriptor (TJ10 k).2.2.1 = some (tyJ10 k) := by decide +kernel
def RJ7 : String := "java/util/Arrays"
def TJ7 : u_T := fun k => match k with
  | _ => ("", "", "", false)
def tyJ7 : Nat → FieldType := fun k => match k with
  | _ => .int
abbrev wsJ70 : List Cond := u_ws RJ7 TJ7 0
theorem nmJ7 : ∀ a, a < 0 → ∀ b, b < 0 → a ≠ b → (TJ7 a).2.1 ≠ (TJ7 b).2.1 := by decide +kernel
theorem tyJ7_ok : ∀ k, k < 0 → parseFieldDescriptor (TJ7 k).2.2.1 = some (tyJ7 k) := by decide +kernel
abbrev cJ7_fill_d0a16 : ByteArray := prog_24_method_101_code
def yJ7_fill_d0a16 : MethodName := ⟨RJ7, "fill", "([JJ)V"⟩
abbrev cJ7_fill_53178 : ByteArray := prog_24_method_103_code
def yJ7_fill_53178 : MethodName := ⟨RJ7, "fill", "([II)V"⟩
def RL : String := "NineMilesOffLaw"
abbrev cL_element : ByteArray := method_3_code
def yL_element : MethodName := ⟨RL, "element", "(LNineMilesOff;II[J)I"⟩
abbrev cL_law : ByteArray := code
def yL_law : MethodName := ⟨RL, "law", "([I)Z"⟩
abbrev vwCl : List vw_C := [(RX0, TX0, 9), (RX3, TX3, 10), (RX4, TX4, 1), (RX5, TX5, 6), (RX9, TX9, 3), (RX10, TX10, 9), (RX11, TX11, 39)]
def W_0 : List Cond := [.classLink RL 8 RX10, .instantiable RX10 9, .initialized RX10, .classLink RL 18 RX11, .instantiable RX11 39, .initialized RX11, .arrayClass .long, .methodLink RL 17 yX10_init, .instanceMethod yX10_init, .code yX10_init cX10_init 2 none, .methodLink RX10 3 objectInit, .instanceMethod objectInit, .code objectInit ⟨#[0xb1]⟩ 1 none, .classLink RX10 9 RX3, .instantiable RX3 10, .initialized RX3, .fieldLink RX10 12 "NineMilesOff" "now" "LNineMilesOff$Land;", .fieldLink RX10 16 "NineMilesOff" "kept" "LNineMilesOff$Land;", .fieldLink RX10 19 "NineMilesOff" "trial" "LNineMilesOff$Land;", .classLink RX10 22 RX0, .instantiable RX0 9, .initialized RX0, .fieldLink RX10 25 "NineMilesOff" "board" "LNineMilesOff$Board;", .classLink RX10 29 RX9, .instantiable RX9 3, .initialized RX9, .fieldLink RX10 32 "NineMilesOff" "track" "LNineMilesOff$Track;", .classLink RX10 36 RX4, .instantiable RX4 1, .initialized RX4]
def W_1 : List Cond := [.fieldLink RX10 39 "NineMilesOff" "play" "LNineMilesOff$Play;", .classLink RX10 43 RX5, .instantiable RX5 6, .initialized RX5, .fieldLink RX10 46 "NineMilesOff" "noShelf" "LNineMilesOff$Shelf;", .fieldLink RX10 50 "NineMilesOff" "shelves" "[LNineMilesOff$Shelf;", .instanceMethod yX3_init, .code yX3_init cX3_init 1 none, .methodLink RX3 3 objectInit, .arrayClass .int, .fieldLink RX3 9 "NineMilesOff$Land" "kinds" "[I", .fieldLink RX3 15 "NineMilesOff$Land" "figures" "[I", .fieldLink RX3 18 "NineMilesOff$Land" "winter" "I", .fieldLink RX3 22 "NineMilesOff$Land" "nearest" "I", .fieldLink RX3 25 "NineMilesOff$Land" "farthest" "I", .fieldLink RX3 28 "NineMilesOff$Land" "his" "I", .fieldLink RX3 31 "NineMilesOff$Land" "hers" "I", .fieldLink RX3 34 "NineMilesOff$Land" "day" "I", .fieldLink RX3 37 "NineMilesOff$Land" "stopped" "I", .fieldLink RX3 40 "NineMilesOff$Land" "pain" "I", .instanceMethod yX0_init, .code yX0_init cX0_init 1 none, .methodLink RX0 3 objectInit, .fieldLink RX0 9 "NineMilesOff$Board" "heights" "[I", .fieldLink RX0 15 "NineMilesOff$Board" "fars" "[I", .fieldLink RX0 18 "NineMilesOff$Board" "near" "[J", .fieldLink RX0 22 "NineMilesOff$Board" "fit" "[J", .fieldLink RX0 25 "NineMilesOff$Board" "come" "[J", .fieldLink RX0 28 "NineMilesOff$Board" "fresh" "[J", .fieldLink RX0 31 "NineMilesOff$Board" "days" "[I"]
def W_2 : List Cond := [.fieldLink RX0 34 "NineMilesOff$Board" "walks" "[J", .fieldLink RX0 37 "NineMilesOff$Board" "half" "[J", .instanceMethod yX9_init, .code yX9_init cX9_init 1 none, .methodLink RX9 3 objectInit, .fieldLink RX9 9 "NineMilesOff$Track" "hers" "[J", .fieldLink RX9 15 "NineMilesOff$Track" "left" "[J", .fieldLink RX9 18 "NineMilesOff$Track" "leftThen" "[J", .instanceMethod yX4_init, .code yX4_init cX4_init 1 none, .methodLink RX4 3 objectInit, .fieldLink RX4 9 "NineMilesOff$Play" "fars" "[I", .instanceMethod yX5_init, .code yX5_init cX5_init 1 none, .methodLink RX5 3 objectInit, .fieldLink RX5 11 "NineMilesOff$Shelf" "holds" "I", .fieldLink RX5 15 "NineMilesOff$Shelf" "kind" "I", .fieldLink RX5 18 "NineMilesOff$Shelf" "figure" "I", .fieldLink RX5 21 "NineMilesOff$Shelf" "sort" "I", .fieldLink RX5 24 "NineMilesOff$Shelf" "size" "I", .fieldLink RX5 27 "NineMilesOff$Shelf" "numbers" "[J", .methodLink RL 20 yX11_init, .instanceMethod yX11_init, .code yX11_init cX11_init 1 none, .methodLink RX11 1 objectInit, .fieldLink RX11 7 "NineMilesOffModel" "kinds" "[I", .fieldLink RX11 13 "NineMilesOffModel" "figures" "[I", .fieldLink RX11 16 "NineMilesOffModel" "nearest" "I", .fieldLink RX11 20 "NineMilesOffModel" "farthest" "I", .fieldLink RX11 23 "NineMilesOffModel" "his" "I"]
def W_3 : List Cond := [.fieldLink RX11 26 "NineMilesOffModel" "hers" "I", .fieldLink RX11 29 "NineMilesOffModel" "holdsWhat" "[I", .fieldLink RX11 32 "NineMilesOffModel" "keptKind" "[I", .fieldLink RX11 35 "NineMilesOffModel" "keptFigure" "[I", .fieldLink RX11 38 "NineMilesOffModel" "rowSort" "[I", .fieldLink RX11 41 "NineMilesOffModel" "rowMany" "[I", .fieldLink RX11 44 "NineMilesOffModel" "rows" "[J", .fieldLink RX11 48 "NineMilesOffModel" "thoughtOpen" "I", .fieldLink RX11 51 "NineMilesOffModel" "placeIn" "[I", .fieldLink RX11 54 "NineMilesOffModel" "letterOf" "[I", .fieldLink RX11 57 "NineMilesOffModel" "told" "[I", .fieldLink RX11 60 "NineMilesOffModel" "kept" "[I", .fieldLink RX11 63 "NineMilesOffModel" "imaged" "[I", .fieldLink RX11 66 "NineMilesOffModel" "steps" "[I", .fieldLink RX11 69 "NineMilesOffModel" "days" "[I", .fieldLink RX11 72 "NineMilesOffModel" "queue" "[I", .fieldLink RX11 75 "NineMilesOffModel" "waysTo" "[J", .fieldLink RX11 78 "NineMilesOffModel" "waysThen" "[J", .fieldLink RX11 81 "NineMilesOffModel" "unsure" "[I", .fieldLink RX11 84 "NineMilesOffModel" "between" "[J", .fieldLink RX11 87 "NineMilesOffModel" "thrown" "I", .methodLink RL 21 yX10_land, .instanceMethod yX10_land, .selects RX10 yX10_land yX10_land, .code yX10_land cX10_land 5 (some .int), .fieldLink RX10 62 "NineMilesOff$Shelf" "sort" "I", .methodLink RX10 54 yX10_refusalOfRow, .instanceMethod yX10_refusalOfRow, .selects RX10 yX10_refusalOfRow yX10_refusalOfRow, .code yX10_refusalOfRow cX10_refusalOfRow 2 (some .int)]
def W_4 : List Cond := [.methodLink RX10 385 yX10_refusalUnless, .instanceMethod yX10_refusalUnless, .selects RX10 yX10_refusalUnless yX10_refusalUnless, .code yX10_refusalUnless cX10_refusalUnless 3 (some .int), .fieldLink RX10 327 "NineMilesOff$Shelf" "holds" "I", .methodLink RX10 296 yX10_isShelf, .static yX10_isShelf, .code yX10_isShelf cX10_isShelf 1 (some .boolean), .methodLink RX10 58 yX10_shelfAt, .instanceMethod yX10_shelfAt, .selects RX10 yX10_shelfAt yX10_shelfAt, .code yX10_shelfAt cX10_shelfAt 2 (some (.object "NineMilesOff$Shelf")), .methodLink RX10 66 yX8_firstWrongByte, .static yX8_firstWrongByte, .initialized RX8, .code yX8_firstWrongByte cX8_firstWrongByte 5 (some .int), .fieldLink RX8 11 "NineMilesOff$Shelf" "size" "I", .constantLong RX8 25 (59), .constantLong RX8 27 (48), .constantLong RX8 29 (57), .methodLink RX8 17 yX5_numberAt, .instanceMethod yX5_numberAt, .selects RX5 yX5_numberAt yX5_numberAt, .code yX5_numberAt cX5_numberAt 2 (some .long), .methodLink RX8 21 yX8_digitsBehind, .static yX8_digitsBehind, .code yX8_digitsBehind cX8_digitsBehind 2 (some .int), .methodLink RX10 72 yX3_becomes, .instanceMethod yX3_becomes, .selects RX3 yX3_becomes yX3_becomes]
def W_5 : List Cond := [.code yX3_becomes cX3_becomes 3 none, .methodLink RX10 76 yX8_firstNotDone, .static yX8_firstNotDone, .code yX8_firstNotDone cX8_firstNotDone 4 (some .int), .methodLink RX8 31 yX8_isDone, .static yX8_isDone, .code yX8_isDone cX8_isDone 3 (some .boolean), .methodLink RX8 39 yX8_isLaid, .static yX8_isLaid, .code yX8_isLaid cX8_isLaid 5 (some .boolean), .methodLink RX8 35 yX8_digitAt, .static yX8_digitAt, .code yX8_digitAt cX8_digitAt 2 (some .int), .methodLink RX8 42 yX8_twoDigitsAt, .static yX8_twoDigitsAt, .code yX8_twoDigitsAt cX8_twoDigitsAt 2 (some .int), .methodLink RX8 62 yX2_isKind, .static yX2_isKind, .initialized RX2, .code yX2_isKind cX2_isKind 1 (some .boolean), .static yX10_isCell, .code yX10_isCell cX10_isCell 2 (some .boolean), .constantLong RX10 383 (36), .methodLink RX8 72 yX3_layAt, .instanceMethod yX3_layAt, .selects RX3 yX3_layAt yX3_layAt, .code yX3_layAt cX3_layAt 4 none, .methodLink RX8 45 yX8_isPlaced, .static yX8_isPlaced, .code yX8_isPlaced cX8_isPlaced 3 (some .boolean)]
def W_6 : List Cond := [.methodLink RX8 76 yX3_isOpen, .instanceMethod yX3_isOpen, .selects RX3 yX3_isOpen yX3_isOpen, .code yX3_isOpen cX3_isOpen 2 (some .boolean), .methodLink RX3 53 yX2_isOpen, .static yX2_isOpen, .code yX2_isOpen cX2_isOpen 3 (some .boolean), .methodLink RX8 79 yX3_place, .instanceMethod yX3_place, .selects RX3 yX3_place yX3_place, .code yX3_place cX3_place 3 none, .methodLink RX8 49 yX8_isBound, .static yX8_isBound, .code yX8_isBound cX8_isBound 5 (some .boolean), .fieldLink RX8 86 "NineMilesOff$Land" "nearest" "I", .fieldLink RX8 89 "NineMilesOff$Land" "farthest" "I", .static yX10_isDistance, .code yX10_isDistance cX10_isDistance 1 (some .boolean), .methodLink RX8 52 yX8_isWintered, .static yX8_isWintered, .code yX8_isWintered cX8_isWintered 2 (some .boolean), .fieldLink RX8 95 "NineMilesOff$Land" "winter" "I", .static yX10_isEither, .code yX10_isEither cX10_isEither 1 (some .boolean), .methodLink RX8 56 yX3_goDay, .instanceMethod yX3_goDay, .selects RX3 yX3_goDay yX3_goDay, .code yX3_goDay cX3_goDay 5 (some .boolean), .methodLink RX3 87 yX3_cellBy, .instanceMethod yX3_cellBy]
def W_7 : List Cond := [.selects RX3 yX3_cellBy yX3_cellBy, .code yX3_cellBy cX3_cellBy 4 (some .int), .methodLink RX3 84 yX7_cellTo, .static yX7_cellTo, .initialized RX7, .code yX7_cellTo cX7_cellTo 2 (some .int), .methodLink RX3 60 yX3_isOpen, .methodLink RX3 90 yX3_endDay, .instanceMethod yX3_endDay, .selects RX3 yX3_endDay yX3_endDay, .code yX3_endDay cX3_endDay 4 none, .methodLink RX3 94 yX3_farBetween, .instanceMethod yX3_farBetween, .selects RX3 yX3_farBetween yX3_farBetween, .code yX3_farBetween cX3_farBetween 3 (some .int), .methodLink RX3 79 Lib.Math.abs.name, .static Lib.Math.abs.name, .initialized "java/lang/Math", .code Lib.Math.abs.name Lib.Math.abs.code 1 (some .int), .methodLink RX3 73 yX7_apart, .static yX7_apart, .code yX7_apart cX7_apart 2 (some .int), .methodLink RX7 19 Lib.Math.abs.name, .methodLink RX3 76 yX3_heightAt, .instanceMethod yX3_heightAt, .selects RX3 yX3_heightAt yX3_heightAt, .code yX3_heightAt cX3_heightAt 2 (some .int), .methodLink RX3 49 yX2_heightOf, .static yX2_heightOf, .code yX2_heightOf cX2_heightOf 2 (some .int)]
def W_8 : List Cond := [.methodLink RX10 80 yX8_statementsOf, .static yX8_statementsOf, .code yX8_statementsOf cX8_statementsOf 3 (some .int), .methodLink RL 25 yX11_land, .instanceMethod yX11_land, .selects RX11 yX11_land yX11_land, .code yX11_land cX11_land 4 (some .int), .fieldLink RX11 127 "NineMilesOffModel" "reading" "I", .fieldLink RX11 124 "NineMilesOffModel" "at" "I", .fieldLink RX11 130 "NineMilesOffModel" "isBad" "Z", .fieldLink RX11 142 "NineMilesOffModel" "statements" "I", .methodLink RX11 168 yX11_wrongRow, .instanceMethod yX11_wrongRow, .selects RX11 yX11_wrongRow yX11_wrongRow, .code yX11_wrongRow cX11_wrongRow 2 (some .int), .constantLong RX11 203 (7), .methodLink RX11 92 yX11_in, .static yX11_in, .code yX11_in cX11_in 6 (some .boolean), .methodLink RX11 171 yX11_readStatement, .instanceMethod yX11_readStatement, .selects RX11 yX11_readStatement yX11_readStatement, .code yX11_readStatement cX11_readStatement 4 none, .methodLink RX11 134 yX11_here, .instanceMethod yX11_here, .selects RX11 yX11_here yX11_here, .code yX11_here cX11_here 1 (some .int), .methodLink RX11 145 yX11_isLetter, .static yX11_isLetter, .code yX11_isLetter cX11_isLetter 1 (some .boolean)]
def W_9 : List Cond := [.methodLink RX11 148 yX11_readDigits, .instanceMethod yX11_readDigits, .selects RX11 yX11_readDigits yX11_readDigits, .code yX11_readDigits cX11_readDigits 4 (some .int), .constantLong RX11 138 (48), .constantLong RX11 140 (57), .methodLink RX11 174 yX11_carryAll, .instanceMethod yX11_carryAll, .selects RX11 yX11_carryAll yX11_carryAll, .code yX11_carryAll cX11_carryAll 4 none, .fieldLink RX11 184 "NineMilesOffModel" "keptIn" "[I", .fieldLink RX11 181 "NineMilesOffModel" "isTaking" "Z", .fieldLink RX11 187 "NineMilesOffModel" "place0" "I", .fieldLink RX11 96 "NineMilesOffModel" "winter" "I", .fieldLink RX11 151 "NineMilesOffModel" "day" "I", .fieldLink RX11 154 "NineMilesOffModel" "stopped" "I", .fieldLink RX11 157 "NineMilesOffModel" "pain" "I", .methodLink RX11 190 yX11_carry, .instanceMethod yX11_carry, .selects RX11 yX11_carry yX11_carry, .code yX11_carry cX11_carry 2 (some .int), .methodLink RX11 178 yX11_comes, .instanceMethod yX11_comes, .selects RX11 yX11_comes yX11_comes, .code yX11_comes cX11_comes 5 (some .boolean), .methodLink RX11 160 yX11_canGo, .instanceMethod yX11_canGo, .selects RX11 yX11_canGo yX11_canGo, .code yX11_canGo cX11_canGo 3 (some .boolean), .methodLink RX11 121 yX11_goneTo]
def W_10 : List Cond := [.instanceMethod yX11_goneTo, .selects RX11 yX11_goneTo yX11_goneTo, .code yX11_goneTo cX11_goneTo 4 (some .int), .methodLink RX11 110 yX11_beside, .static yX11_beside, .code yX11_beside cX11_beside 2 (some .int), .methodLink RX11 113 yX11_isOpen, .instanceMethod yX11_isOpen, .selects RX11 yX11_isOpen yX11_isOpen, .code yX11_isOpen cX11_isOpen 2 (some .boolean), .methodLink RX11 164 yX11_goBoth, .instanceMethod yX11_goBoth, .selects RX11 yX11_goBoth yX11_goBoth, .code yX11_goBoth cX11_goBoth 4 none, .methodLink RX11 106 yX11_farOf, .instanceMethod yX11_farOf, .selects RX11 yX11_farOf yX11_farOf, .code yX11_farOf cX11_farOf 3 (some .int), .methodLink RX11 99 yX11_plainly, .static yX11_plainly, .code yX11_plainly cX11_plainly 1 (some .int), .methodLink RX11 103 yX11_heightOf, .instanceMethod yX11_heightOf, .selects RX11 yX11_heightOf yX11_heightOf, .code yX11_heightOf cX11_heightOf 2 (some .int), .methodLink RL 26 yX10_ground, .instanceMethod yX10_ground, .selects RX10 yX10_ground yX10_ground, .code yX10_ground cX10_ground 3 (some .int), .methodLink RX10 83 yX10_isCell]
def W_11 : List Cond := [.methodLink RX10 87 yX3_kindAt, .instanceMethod yX3_kindAt, .selects RX3 yX3_kindAt yX3_kindAt, .code yX3_kindAt cX3_kindAt 2 (some .int), .methodLink RX10 90 yX3_figureAt, .instanceMethod yX3_figureAt, .selects RX3 yX3_figureAt yX3_figureAt, .code yX3_figureAt cX3_figureAt 2 (some .int), .methodLink RX10 93 yX3_heightAt, .methodLink RX10 96 yX3_isOpen, .methodLink RX10 100 yX3_chanceAt, .instanceMethod yX3_chanceAt, .selects RX3 yX3_chanceAt yX3_chanceAt, .code yX3_chanceAt cX3_chanceAt 2 (some .int), .methodLink RX3 57 yX2_chanceOf, .static yX2_chanceOf, .code yX2_chanceOf cX2_chanceOf 2 (some .int), .methodLink RL 30 yX11_ground, .instanceMethod yX11_ground, .selects RX11 yX11_ground yX11_ground, .code yX11_ground cX11_ground 3 (some .int), .methodLink RX11 196 yX11_isCell, .static yX11_isCell, .code yX11_isCell cX11_isCell 2 (some .boolean), .constantLong RX11 90 (35), .methodLink RX11 200 yX11_chanceOf, .instanceMethod yX11_chanceOf, .selects RX11 yX11_chanceOf yX11_chanceOf, .code yX11_chanceOf cX11_chanceOf 2 (some .int), .methodLink RL 31 yX10_lays]
def W_12 : List Cond := [.instanceMethod yX10_lays, .selects RX10 yX10_lays yX10_lays, .code yX10_lays cX10_lays 5 (some .int), .fieldLink RX10 106 "NineMilesOff$Shelf" "kind" "I", .fieldLink RX10 109 "NineMilesOff$Shelf" "figure" "I", .methodLink RX10 103 yX10_refusalOfGround, .instanceMethod yX10_refusalOfGround, .selects RX10 yX10_refusalOfGround yX10_refusalOfGround, .code yX10_refusalOfGround cX10_refusalOfGround 2 (some .int), .methodLink RX10 112 yX3_layAt, .methodLink RL 34 yX11_lays, .instanceMethod yX11_lays, .selects RX11 yX11_lays yX11_lays, .code yX11_lays cX11_lays 5 (some .int), .methodLink RX11 205 yX11_wrongKept, .instanceMethod yX11_wrongKept, .selects RX11 yX11_wrongKept yX11_wrongKept, .code yX11_wrongKept cX11_wrongKept 2 (some .int), .methodLink RL 35 yX10_stands, .instanceMethod yX10_stands, .selects RX10 yX10_stands yX10_stands, .code yX10_stands cX10_stands 4 (some .int), .fieldLink RX10 119 "NineMilesOff$Land" "his" "I", .fieldLink RX10 122 "NineMilesOff$Land" "hers" "I", .methodLink RX10 116 yX10_isEither, .methodLink RX10 125 yX3_place, .methodLink RL 38 yX11_stands, .instanceMethod yX11_stands, .selects RX11 yX11_stands yX11_stands, .code yX11_stands cX11_stands 4 (some .int)]
def W_13 : List Cond := [.methodLink RL 39 yX10_set, .instanceMethod yX10_set, .selects RX10 yX10_set yX10_set, .code yX10_set cX10_set 4 (some .int), .fieldLink RX10 132 "NineMilesOff$Land" "nearest" "I", .fieldLink RX10 135 "NineMilesOff$Land" "farthest" "I", .fieldLink RX10 138 "NineMilesOff$Land" "winter" "I", .methodLink RX10 129 yX10_isDistance, .methodLink RL 42 yX11_set, .instanceMethod yX11_set, .selects RX11 yX11_set yX11_set, .code yX11_set cX11_set 4 (some .int), .constantLong RX11 208 (2), .constantLong RX11 210 (20), .methodLink RL 43 yX10_go, .instanceMethod yX10_go, .selects RX10 yX10_go yX10_go, .code yX10_go cX10_go 3 (some .int), .methodLink RX10 141 yX10_isWay, .static yX10_isWay, .code yX10_isWay cX10_isWay 1 (some .boolean), .methodLink RX10 144 yX3_goDay, .methodLink RX10 148 yX3_farBetween, .methodLink RL 46 yX11_go, .instanceMethod yX11_go, .selects RX11 yX11_go yX11_go, .code yX11_go cX11_go 3 (some .int), .constantLong RX11 212 (4), .methodLink RL 47 yX10_far, .instanceMethod yX10_far]
def W_14 : List Cond := [.selects RX10 yX10_far yX10_far, .code yX10_far cX10_far 3 (some .int), .methodLink RL 50 yX11_far, .instanceMethod yX11_far, .selects RX11 yX11_far yX11_far, .code yX11_far cX11_far 3 (some .int), .methodLink RL 51 yX10_steps, .instanceMethod yX10_steps, .selects RX10 yX10_steps yX10_steps, .code yX10_steps cX10_steps 3 (some .int), .methodLink RX10 152 yX3_openCells, .instanceMethod yX3_openCells, .selects RX3 yX3_openCells yX3_openCells, .code yX3_openCells cX3_openCells 4 (some .long), .methodLink RX3 63 yX7_bit, .static yX7_bit, .code yX7_bit cX7_bit 1 (some .long), .methodLink RX10 156 yX7_stepsBetween, .static yX7_stepsBetween, .code yX7_stepsBetween cX7_stepsBetween 7 (some .int), .methodLink RX7 11 yX7_bit, .methodLink RX7 15 yX7_has, .static yX7_has, .code yX7_has cX7_has 3 (some .boolean), .methodLink RX7 35 yX7_spread, .static yX7_spread, .code yX7_spread cX7_spread 4 (some .long), .constantLong RX7 29 (-1090785346), .constantLong RX7 31 (-34905131041), .constantLong RX7 33 (68719476735)]
def W_15 : List Cond := [.methodLink RL 54 yX11_steps, .instanceMethod yX11_steps, .selects RX11 yX11_steps yX11_steps, .code yX11_steps cX11_steps 3 (some .int), .methodLink RX11 222 yX11_layStepsFrom, .instanceMethod yX11_layStepsFrom, .selects RX11 yX11_layStepsFrom yX11_layStepsFrom, .code yX11_layStepsFrom cX11_layStepsFrom 6 none, .methodLink RX11 214 yX11_openCells, .instanceMethod yX11_openCells, .selects RX11 yX11_openCells yX11_openCells, .code yX11_openCells cX11_openCells 4 (some .long), .methodLink RX11 117 yX11_isOn, .static yX11_isOn, .code yX11_isOn cX11_isOn 3 (some .boolean), .methodLink RX11 218 yX11_goOn, .instanceMethod yX11_goOn, .selects RX11 yX11_goOn yX11_goOn, .code yX11_goOn cX11_goOn 8 (some .long), .methodLink RL 55 yX10_pairs, .instanceMethod yX10_pairs, .selects RX10 yX10_pairs yX10_pairs, .code yX10_pairs cX10_pairs 2 (some .int), .methodLink RX10 162 yX0_lay, .instanceMethod yX0_lay, .selects RX0 yX0_lay yX0_lay, .code yX0_lay cX0_lay 5 none, .methodLink RX0 46 Lib.Math.abs.name, .fieldLink RX0 57 "NineMilesOff$Land" "nearest" "I", .fieldLink RX0 61 "NineMilesOff$Land" "farthest" "I"]
def W_16 : List Cond := [.methodLink RX0 40 yX3_heightAt, .methodLink RX0 51 yX7_apart, .methodLink RX0 64 yX0_bound, .instanceMethod yX0_bound, .selects RX0 yX0_bound yX0_bound, .code yX0_bound cX0_bound 8 none, .methodLink RX0 68 yX3_openCells, .methodLink RX0 72 yX0_admit, .instanceMethod yX0_admit, .selects RX0 yX0_admit yX0_admit, .code yX0_admit cX0_admit 4 none, .methodLink RX0 76 yX7_has, .methodLink RX10 165 yX0_pairsInAll, .instanceMethod yX0_pairsInAll, .selects RX0 yX0_pairsInAll yX0_pairsInAll, .code yX0_pairsInAll cX0_pairsInAll 1 (some .int), .methodLink RX0 84 yX0_bitsOf, .static yX0_bitsOf, .code yX0_bitsOf cX0_bitsOf 3 (some .int), .methodLink RX0 88 yJ13_bitCount_95d88, .static yJ13_bitCount_95d88, .initialized RJ13, .code yJ13_bitCount_95d88 cJ13_bitCount_95d88 2 (some .int), .constantLong RJ13 314 (6148914691236517205), .constantLong RJ13 316 (3689348814741910323), .constantLong RJ13 318 (1085102592571150095), .methodLink RX10 169 yX0_pairAt, .instanceMethod yX0_pairAt, .selects RX0 yX0_pairAt yX0_pairAt, .code yX0_pairAt cX0_pairAt 5 (some .int)]
def W_17 : List Cond := [.methodLink RL 58 yX11_pairs, .instanceMethod yX11_pairs, .selects RX11 yX11_pairs yX11_pairs, .code yX11_pairs cX11_pairs 4 (some .int), .methodLink RX11 232 yX11_pairMany, .instanceMethod yX11_pairMany, .selects RX11 yX11_pairMany yX11_pairMany, .code yX11_pairMany cX11_pairMany 3 (some .int), .methodLink RX11 229 yX11_isPair, .instanceMethod yX11_isPair, .selects RX11 yX11_isPair yX11_isPair, .code yX11_isPair cX11_isPair 3 (some .boolean), .methodLink RX11 226 yX11_isOff, .instanceMethod yX11_isOff, .selects RX11 yX11_isOff yX11_isOff, .code yX11_isOff cX11_isOff 3 (some .boolean), .methodLink RL 59 yX10_islands, .instanceMethod yX10_islands, .selects RX10 yX10_islands yX10_islands, .code yX10_islands cX10_islands 1 (some .int), .methodLink RX10 172 yX7_islandsOf, .static yX7_islandsOf, .code yX7_islandsOf cX7_islandsOf 6 (some .int), .constantLong RX7 47 (-1), .methodLink RX7 43 yX7_islandOf, .static yX7_islandOf, .code yX7_islandOf cX7_islandOf 3 (some .long), .methodLink RX7 39 yX7_cellsWithin, .static yX7_cellsWithin, .code yX7_cellsWithin cX7_cellsWithin 7 (some .long)]
def W_18 : List Cond := [.methodLink RL 63 yX11_islands, .instanceMethod yX11_islands, .selects RX11 yX11_islands yX11_islands, .code yX11_islands cX11_islands 5 (some .int), .methodLink RX11 235 yX11_partWith, .instanceMethod yX11_partWith, .selects RX11 yX11_partWith yX11_partWith, .code yX11_partWith cX11_partWith 5 (some .long), .methodLink RL 64 yX10_island, .instanceMethod yX10_island, .selects RX10 yX10_island yX10_island, .code yX10_island cX10_island 4 (some .int), .methodLink RX10 176 yX7_has, .methodLink RX10 180 yX7_islandOf, .methodLink RX10 184 yJ13_bitCount_95d88, .methodLink RL 67 yX11_island, .instanceMethod yX11_island, .selects RX11 yX11_island yX11_island, .code yX11_island cX11_island 2 (some .int), .methodLink RX11 239 yX11_onesOf, .static yX11_onesOf, .code yX11_onesOf cX11_onesOf 5 (some .int), .methodLink RL 68 yX10_middle, .instanceMethod yX10_middle, .selects RX10 yX10_middle yX10_middle, .code yX10_middle cX10_middle 5 (some .int), .methodLink RX10 189 yX7_middleOf, .static yX7_middleOf, .code yX7_middleOf cX7_middleOf 8 (some .int), .methodLink RX7 55 yX7_largestIsland]
def W_19 : List Cond := [.static yX7_largestIsland, .code yX7_largestIsland cX7_largestIsland 9 (some .long), .methodLink RX7 49 yJ13_bitCount_95d88, .methodLink RX7 58 yX7_greatestSteps, .static yX7_greatestSteps, .code yX7_greatestSteps cX7_greatestSteps 8 (some .int), .methodLink RX10 192 yX7_greatestSteps, .methodLink RL 71 yX11_middle, .instanceMethod yX11_middle, .selects RX11 yX11_middle yX11_middle, .code yX11_middle cX11_middle 9 (some .int), .methodLink RL 72 yX10_see, .instanceMethod yX10_see, .selects RX10 yX10_see yX10_see, .code yX10_see cX10_see 4 (some .int), .methodLink RX10 196 yX10_refusalToSee, .instanceMethod yX10_refusalToSee, .selects RX10 yX10_refusalToSee yX10_refusalToSee, .code yX10_refusalToSee cX10_refusalToSee 3 (some .int), .methodLink RX10 218 yX3_bothStand, .instanceMethod yX3_bothStand, .selects RX3 yX3_bothStand yX3_bothStand, .code yX3_bothStand cX3_bothStand 1 (some .boolean), .methodLink RX10 199 yX0_daysBetween, .instanceMethod yX0_daysBetween, .selects RX0 yX0_daysBetween yX0_daysBetween, .code yX0_daysBetween cX0_daysBetween 6 (some .int), .methodLink RX0 103 yX0_isPair, .instanceMethod yX0_isPair, .selects RX0 yX0_isPair yX0_isPair]
def W_20 : List Cond := [.code yX0_isPair cX0_isPair 3 (some .boolean), .methodLink RX0 127 yX0_start, .instanceMethod yX0_start, .selects RX0 yX0_start yX0_start, .code yX0_start cX0_start 3 none, .methodLink RX0 94 yJ7_fill_53178, .static yJ7_fill_53178, .initialized RJ7, .code yJ7_fill_53178 cJ7_fill_53178 4 none, .methodLink RX0 100 yJ7_fill_d0a16, .static yJ7_fill_d0a16, .code yJ7_fill_d0a16 cJ7_fill_d0a16 5 none, .methodLink RX0 107 yX7_bit, .methodLink RX0 130 yX0_spreadOn, .instanceMethod yX0_spreadOn, .selects RX0 yX0_spreadOn yX0_spreadOn, .code yX0_spreadOn cX0_spreadOn 4 (some .boolean), .constantLong RX0 118 (-1), .methodLink RX0 111 yX0_comeAround, .instanceMethod yX0_comeAround, .selects RX0 yX0_comeAround yX0_comeAround, .code yX0_comeAround cX0_comeAround 6 (some .long), .methodLink RX0 124 yX7_cellTo, .methodLink RX0 114 yX7_spread, .methodLink RX0 120 yX0_mark, .instanceMethod yX0_mark, .selects RX0 yX0_mark yX0_mark, .code yX0_mark cX0_mark 6 none, .methodLink RL 75 yX11_see, .instanceMethod yX11_see]
def W_21 : List Cond := [.selects RX11 yX11_see yX11_see, .code yX11_see cX11_see 3 (some .int), .methodLink RX11 250 yX11_wrongTwo, .instanceMethod yX11_wrongTwo, .selects RX11 yX11_wrongTwo yX11_wrongTwo, .code yX11_wrongTwo cX11_wrongTwo 3 (some .int), .methodLink RX11 243 yX11_areBoth, .instanceMethod yX11_areBoth, .selects RX11 yX11_areBoth yX11_areBoth, .code yX11_areBoth cX11_areBoth 1 (some .boolean), .methodLink RX11 253 yX11_seeDays, .instanceMethod yX11_seeDays, .selects RX11 yX11_seeDays yX11_seeDays, .code yX11_seeDays cX11_seeDays 4 (some .int), .methodLink RX11 247 yX11_layDaysFrom, .instanceMethod yX11_layDaysFrom, .selects RX11 yX11_layDaysFrom yX11_layDaysFrom, .code yX11_layDaysFrom cX11_layDaysFrom 8 none, .methodLink RL 76 yX10_way, .instanceMethod yX10_way, .selects RX10 yX10_way yX10_way, .code yX10_way cX10_way 6 (some .int), .methodLink RX10 203 yX0_pairOnWay, .instanceMethod yX0_pairOnWay, .selects RX0 yX0_pairOnWay yX0_pairOnWay, .code yX0_pairOnWay cX0_pairOnWay 6 (some .int), .methodLink RX0 134 yX0_nextPair, .instanceMethod yX0_nextPair, .selects RX0 yX0_nextPair yX0_nextPair, .code yX0_nextPair cX0_nextPair 10 (some .int)]
def W_22 : List Cond := [.methodLink RX0 137 yX0_daysLeft, .instanceMethod yX0_daysLeft, .selects RX0 yX0_daysLeft yX0_daysLeft, .code yX0_daysLeft cX0_daysLeft 3 (some .int), .methodLink RL 80 yX11_way, .instanceMethod yX11_way, .selects RX11 yX11_way yX11_way, .code yX11_way cX11_way 14 (some .int), .methodLink RL 81 yX10_hinders, .instanceMethod yX10_hinders, .selects RX10 yX10_hinders yX10_hinders, .code yX10_hinders cX10_hinders 10 (some .int), .methodLink RX10 207 yX7_bit, .methodLink RX10 211 yX0_admit, .methodLink RL 84 yX11_hinders, .instanceMethod yX11_hinders, .selects RX11 yX11_hinders yX11_hinders, .code yX11_hinders cX11_hinders 7 (some .int), .methodLink RL 85 yX10_needs, .instanceMethod yX10_needs, .selects RX10 yX10_needs yX10_needs, .code yX10_needs cX10_needs 7 (some .int), .methodLink RX10 215 yX0_bound, .methodLink RL 88 yX11_needs, .instanceMethod yX11_needs, .selects RX11 yX11_needs yX11_needs, .code yX11_needs cX11_needs 5 (some .int), .methodLink RL 89 yX10_within, .instanceMethod yX10_within, .selects RX10 yX10_within yX10_within]
def W_23 : List Cond := [.code yX10_within cX10_within 2 (some .int), .methodLink RX10 222 yX0_pairsWithin, .instanceMethod yX0_pairsWithin, .selects RX0 yX0_pairsWithin yX0_pairsWithin, .code yX0_pairsWithin cX0_pairsWithin 5 (some .int), .methodLink RL 92 yX11_within, .instanceMethod yX11_within, .selects RX11 yX11_within yX11_within, .code yX11_within cX11_within 4 (some .int), .constantLong RX11 256 (40), .methodLink RL 93 yX10_ways, .instanceMethod yX10_ways, .selects RX10 yX10_ways yX10_ways, .code yX10_ways cX10_ways 3 (some .long), .methodLink RX10 225 yX10_refusalToCount, .instanceMethod yX10_refusalToCount, .selects RX10 yX10_refusalToCount yX10_refusalToCount, .code yX10_refusalToCount cX10_refusalToCount 2 (some .int), .methodLink RX10 228 yX10_ofLongs, .static yX10_ofLongs, .code yX10_ofLongs cX10_ofLongs 1 (some .long), .constantLong RX10 392 (1000000000), .methodLink RX10 231 yX0_walk, .instanceMethod yX0_walk, .selects RX0 yX0_walk yX0_walk, .code yX0_walk cX0_walk 5 none, .methodLink RX0 140 yX0_walkHim, .instanceMethod yX0_walkHim, .selects RX0 yX0_walkHim yX0_walkHim, .code yX0_walkHim cX0_walkHim 5 none]
def W_24 : List Cond := [.methodLink RX0 143 yX0_walkHer, .instanceMethod yX0_walkHer, .selects RX0 yX0_walkHer yX0_walkHer, .code yX0_walkHer cX0_walkHer 5 none, .methodLink RX10 234 yX0_walksInAll, .instanceMethod yX0_walksInAll, .selects RX0 yX0_walksInAll yX0_walksInAll, .code yX0_walksInAll cX0_walksInAll 4 (some .long), .methodLink RL 97 yX11_ways, .instanceMethod yX11_ways, .selects RX11 yX11_ways yX11_ways, .code yX11_ways cX11_ways 5 (some .long), .constant RX11 263 (1000000000), .methodLink RX11 260 yX11_wrongWays, .instanceMethod yX11_wrongWays, .selects RX11 yX11_wrongWays yX11_wrongWays, .code yX11_wrongWays cX11_wrongWays 2 (some .int), .constantLong RX11 258 (10), .methodLink RX11 264 yX11_layWays, .instanceMethod yX11_layWays, .selects RX11 yX11_layWays yX11_layWays, .code yX11_layWays cX11_layWays 7 none, .methodLink RL 98 yX10_rounds, .instanceMethod yX10_rounds, .selects RX10 yX10_rounds yX10_rounds, .code yX10_rounds cX10_rounds 3 (some .long), .methodLink RX10 237 yX0_walksTo, .instanceMethod yX0_walksTo, .selects RX0 yX0_walksTo yX0_walksTo, .code yX0_walksTo cX0_walksTo 3 (some .long)]
def W_25 : List Cond := [.methodLink RL 101 yX11_rounds, .instanceMethod yX11_rounds, .selects RX11 yX11_rounds yX11_rounds, .code yX11_rounds cX11_rounds 2 (some .long), .methodLink RL 102 yX10_late, .instanceMethod yX10_late, .selects RX10 yX10_late yX10_late, .code yX10_late cX10_late 8 (some .int), .constantLong RX10 251 (-1), .methodLink RX10 241 yX7_cellsWithin, .methodLink RX10 245 yX3_cellBy, .methodLink RX10 248 yX0_nearOf, .instanceMethod yX0_nearOf, .selects RX0 yX0_nearOf yX0_nearOf, .code yX0_nearOf cX0_nearOf 2 (some .long), .methodLink RL 105 yX11_late, .instanceMethod yX11_late, .selects RX11 yX11_late yX11_late, .code yX11_late cX11_late 10 (some .int), .constantLong RX11 267 (8), .methodLink RL 106 yX10_hisWay, .instanceMethod yX10_hisWay, .selects RX10 yX10_hisWay yX10_hisWay, .code yX10_hisWay cX10_hisWay 6 (some .long), .methodLink RX10 253 yX10_refusalOfTrack, .instanceMethod yX10_refusalOfTrack, .selects RX10 yX10_refusalOfTrack yX10_refusalOfTrack, .code yX10_refusalOfTrack cX10_refusalOfTrack 3 (some .int), .methodLink RX10 388 yX9_isOfCells, .static yX9_isOfCells]
def W_26 : List Cond := [.code yX9_isOfCells cX9_isOfCells 2 (some .boolean), .fieldLink RX9 21 "NineMilesOff$Shelf" "size" "I", .methodLink RX9 27 yX5_numberAt, .methodLink RX10 256 yX9_follow, .instanceMethod yX9_follow, .selects RX9 yX9_follow yX9_follow, .code yX9_follow cX9_follow 8 (some .long), .methodLink RX9 49 yX7_spread, .methodLink RX9 61 yX9_fitOn, .static yX9_fitOn, .code yX9_fitOn cX9_fitOn 5 (some .long), .methodLink RX9 56 yX0_nearOf, .methodLink RL 109 yX11_hisWay, .instanceMethod yX11_hisWay, .selects RX11 yX11_hisWay yX11_hisWay, .code yX11_hisWay cX11_hisWay 6 (some .long), .methodLink RX11 273 yX11_wrongCells, .instanceMethod yX11_wrongCells, .selects RX11 yX11_wrongCells yX11_wrongCells, .code yX11_wrongCells cX11_wrongCells 4 (some .int), .methodLink RX11 269 yX11_notOff, .instanceMethod yX11_notOff, .selects RX11 yX11_notOff yX11_notOff, .code yX11_notOff cX11_notOff 8 (some .long), .methodLink RX11 276 yX11_toTheLast, .instanceMethod yX11_toTheLast, .selects RX11 yX11_toTheLast yX11_toTheLast, .code yX11_toTheLast cX11_toTheLast 8 (some .long), .methodLink RL 110 yX10_letter, .instanceMethod yX10_letter]
def W_27 : List Cond := [.selects RX10 yX10_letter yX10_letter, .code yX10_letter cX10_letter 5 (some .int), .methodLink RX10 260 yX9_bestDay, .instanceMethod yX9_bestDay, .selects RX9 yX9_bestDay yX9_bestDay, .code yX9_bestDay cX9_bestDay 12 (some .int), .methodLink RX9 65 Lib.Math.min.name, .static Lib.Math.min.name, .code Lib.Math.min.name Lib.Math.min.code 2 (some .int), .methodLink RX9 44 yX7_bit, .methodLink RX9 71 yX9_leftAround, .instanceMethod yX9_leftAround, .selects RX9 yX9_leftAround yX9_leftAround, .code yX9_leftAround cX9_leftAround 6 (some .long), .methodLink RX9 82 yX7_cellTo, .methodLink RX9 74 yX7_has, .methodLink RX9 78 yX9_worstOf, .instanceMethod yX9_worstOf, .selects RX9 yX9_worstOf yX9_worstOf, .code yX9_worstOf cX9_worstOf 5 (some .int), .methodLink RX9 90 Lib.Math.max.name, .static Lib.Math.max.name, .code Lib.Math.max.name Lib.Math.max.code 2 (some .int), .methodLink RX9 85 yJ13_bitCount_95d88, .methodLink RL 113 yX11_letter, .instanceMethod yX11_letter, .selects RX11 yX11_letter yX11_letter, .code yX11_letter cX11_letter 11 (some .int), .methodLink RL 114 yX10_third, .instanceMethod yX10_third]
def W_28 : List Cond := [.selects RX10 yX10_third yX10_third, .code yX10_third cX10_third 4 (some .int), .methodLink RX10 264 yX7_leastOf, .static yX7_leastOf, .code yX7_leastOf cX7_leastOf 3 (some .int), .methodLink RL 117 yX11_third, .instanceMethod yX11_third, .selects RX11 yX11_third yX11_third, .code yX11_third cX11_third 6 (some .int), .methodLink RL 118 yX10_game, .instanceMethod yX10_game, .selects RX10 yX10_game yX10_game, .code yX10_game cX10_game 2 (some .int), .methodLink RX10 267 yX4_lay, .instanceMethod yX4_lay, .selects RX4 yX4_lay yX4_lay, .code yX4_lay cX4_lay 7 none, .fieldLink RX4 15 "NineMilesOff$Land" "his" "I", .fieldLink RX4 25 "NineMilesOff$Land" "hers" "I", .methodLink RX4 21 yX3_cellBy, .methodLink RX4 28 yX3_farBetween, .methodLink RX10 268 yX4_firstHeld, .instanceMethod yX4_firstHeld, .selects RX4 yX4_firstHeld yX4_firstHeld, .code yX4_firstHeld cX4_firstHeld 3 (some .int), .methodLink RX4 35 yX4_farOf, .instanceMethod yX4_farOf, .selects RX4 yX4_farOf yX4_farOf, .code yX4_farOf cX4_farOf 3 (some .int), .methodLink RX4 38 yX4_isHeld]
def W_29 : List Cond := [.instanceMethod yX4_isHeld, .selects RX4 yX4_isHeld yX4_isHeld, .code yX4_isHeld cX4_isHeld 7 (some .boolean), .methodLink RX10 271 yX4_leastSure, .instanceMethod yX4_leastSure, .selects RX4 yX4_leastSure yX4_leastSure, .code yX4_leastSure cX4_leastSure 4 (some .int), .methodLink RX4 42 yX4_worstOf, .instanceMethod yX4_worstOf, .selects RX4 yX4_worstOf yX4_worstOf, .code yX4_worstOf cX4_worstOf 4 (some .int), .methodLink RX4 46 Lib.Math.max.name, .methodLink RL 121 yX11_game, .instanceMethod yX11_game, .selects RX11 yX11_game yX11_game, .code yX11_game cX11_game 7 (some .int), .methodLink RX11 282 yX11_rests, .instanceMethod yX11_rests, .selects RX11 yX11_rests yX11_rests, .code yX11_rests cX11_rests 8 (some .boolean), .methodLink RX11 279 yX11_farBy, .instanceMethod yX11_farBy, .selects RX11 yX11_farBy yX11_farBy, .code yX11_farBy cX11_farBy 5 (some .int), .methodLink RL 122 yX10_snow, .instanceMethod yX10_snow, .selects RX10 yX10_snow yX10_snow, .code yX10_snow cX10_snow 8 (some .long), .constantLong RX10 281 (10), .methodLink RX10 274 yX3_unsureCells]
def W_30 : List Cond := [.instanceMethod yX3_unsureCells, .selects RX3 yX3_unsureCells yX3_unsureCells, .code yX3_unsureCells cX3_unsureCells 4 (some .long), .methodLink RX3 69 yX3_chanceAt, .methodLink RX10 283 yX6_likely, .static yX6_likely, .initialized RX6, .code yX6_likely cX6_likely 13 (some .long), .methodLink RX6 26 Lib.Math.min.name, .methodLink RX6 9 yX3_sureCells, .instanceMethod yX3_sureCells, .selects RX3 yX3_sureCells yX3_sureCells, .code yX3_sureCells cX3_sureCells 4 (some .long), .methodLink RX6 15 yX3_unsureCells, .methodLink RX6 18 yJ13_bitCount_95d88, .methodLink RX6 32 yX6_passableOf, .static yX6_passableOf, .code yX6_passableOf cX6_passableOf 7 (some .long), .methodLink RX6 46 yX7_has, .methodLink RX6 50 yX7_bit, .methodLink RX6 36 yX7_stepsBetween, .methodLink RX6 42 yX6_weightOf, .static yX6_weightOf, .code yX6_weightOf cX6_weightOf 9 (some .long), .methodLink RX6 54 yX3_chanceAt, .methodLink RX10 287 yX1_partOf, .static yX1_partOf, .initialized RX1, .code yX1_partOf cX1_partOf 7 (some .long), .methodLink RX1 7 yX1_commonDivisor]
def W_31 : List Cond := [.static yX1_commonDivisor, .code yX1_commonDivisor cX1_commonDivisor 11 (some .long), .methodLink RL 126 yX11_snow, .instanceMethod yX11_snow, .selects RX11 yX11_snow yX11_snow, .code yX11_snow cX11_snow 18 (some .long), .constantLong RX11 289 (-1000000001), .constantLong RX11 291 (9), .constantLong RX11 293 (-1000000003), .methodLink RX11 295 yX11_isWay, .static yX11_isWay, .code yX11_isWay cX11_isWay 12 (some .boolean), .methodLink RX11 299 yX11_partOf, .static yX11_partOf, .code yX11_partOf cX11_partOf 7 (some .long), .methodLink RX11 285 yX11_divisor, .static yX11_divisor, .code yX11_divisor cX11_divisor 10 (some .long), .methodLink RL 127 yX10_mean, .instanceMethod yX10_mean, .selects RX10 yX10_mean yX10_mean, .code yX10_mean cX10_mean 2 (some .long), .methodLink RX10 293 yX0_farsInAll, .instanceMethod yX0_farsInAll, .selects RX0 yX0_farsInAll yX0_farsInAll, .code yX0_farsInAll cX0_farsInAll 5 (some .long), .methodLink RL 130 yX11_mean, .instanceMethod yX11_mean, .selects RX11 yX11_mean yX11_mean, .code yX11_mean cX11_mean 5 (some .long)]
def W_32 : List Cond := [.methodLink RL 131 yX10_curve, .instanceMethod yX10_curve, .selects RX10 yX10_curve yX10_curve, .code yX10_curve cX10_curve 2 (some .int), .methodLink RL 134 yX11_curve, .instanceMethod yX11_curve, .selects RX11 yX11_curve yX11_curve, .code yX11_curve cX11_curve 4 (some .int), .methodLink RL 135 yX10_judge, .instanceMethod yX10_judge, .selects RX10 yX10_judge yX10_judge, .code yX10_judge cX10_judge 3 (some .int), .methodLink RX10 299 yX9_firstWrongPlace, .static yX9_firstWrongPlace, .code yX9_firstWrongPlace cX9_firstWrongPlace 11 (some .int), .fieldLink RX9 41 "NineMilesOff$Land" "his" "I", .methodLink RX9 35 yX3_openCells, .methodLink RX9 53 yX5_leastNumber, .instanceMethod yX5_leastNumber, .selects RX5 yX5_leastNumber yX5_leastNumber, .code yX5_leastNumber cX5_leastNumber 1 (some .long), .constantLong RX5 37 (-128), .constantLong RX5 39 (-2147483648), .constantLong RX5 41 (-9223372036854775808), .methodLink RL 138 yX11_judge, .instanceMethod yX11_judge, .selects RX11 yX11_judge yX11_judge, .code yX11_judge cX11_judge 9 (some .int), .methodLink RX11 309 yX11_stayOrGo, .instanceMethod yX11_stayOrGo]
def W_33 : List Cond := [.selects RX11 yX11_stayOrGo yX11_stayOrGo, .code yX11_stayOrGo cX11_stayOrGo 3 (some .long), .methodLink RX11 312 yX11_skipped, .instanceMethod yX11_skipped, .selects RX11 yX11_skipped yX11_skipped, .code yX11_skipped cX11_skipped 2 (some .long), .constantLong RX11 303 (-128), .constantLong RX11 305 (-2147483648), .constantLong RX11 307 (-9223372036854775808), .methodLink RL 139 yX10_seeds, .instanceMethod yX10_seeds, .selects RX10 yX10_seeds yX10_seeds, .code yX10_seeds cX10_seeds 9 (some .int), .fieldLink RX10 302 "NineMilesOff$Land" "stopped" "I", .fieldLink RX10 305 "NineMilesOff$Land" "pain" "I", .methodLink RX10 308 yX10_nextSeed, .static yX10_nextSeed, .code yX10_nextSeed cX10_nextSeed 1 (some .int), .constant RX10 394 (1103515245), .methodLink RX10 311 yX10_drawOf, .static yX10_drawOf, .code yX10_drawOf cX10_drawOf 1 (some .int), .constant RX10 395 (2147483647), .constant RX10 396 (65536), .methodLink RX10 314 yX3_cellByOrStay, .instanceMethod yX3_cellByOrStay, .selects RX3 yX3_cellByOrStay yX3_cellByOrStay, .code yX3_cellByOrStay cX3_cellByOrStay 4 (some .int), .methodLink RX10 317 yX3_endDay, .methodLink RL 142 yX11_seeds]
def W_34 : List Cond := [.instanceMethod yX11_seeds, .selects RX11 yX11_seeds yX11_seeds, .code yX11_seeds cX11_seeds 12 (some .int), .fieldLink RX11 315 "NineMilesOffModel" "seed" "I", .methodLink RX11 321 yX11_drawBelow, .instanceMethod yX11_drawBelow, .selects RX11 yX11_drawBelow yX11_drawBelow, .code yX11_drawBelow cX11_drawBelow 2 (some .int), .constant RX11 318 (1103515245), .constant RX11 319 (2147483647), .constant RX11 320 (65536), .methodLink RL 143 yX10_image, .instanceMethod yX10_image, .selects RX10 yX10_image yX10_image, .code yX10_image cX10_image 1 (some .int), .fieldLink RX10 320 "NineMilesOff" "taken" "Z", .fieldLink RX10 324 "NineMilesOff$Land" "day" "I", .methodLink RL 146 yX11_image, .instanceMethod yX11_image, .selects RX11 yX11_image yX11_image, .code yX11_image cX11_image 1 (some .int), .fieldLink RX11 193 "NineMilesOffModel" "hasImage" "Z", .methodLink RL 147 yX10_restore, .instanceMethod yX10_restore, .selects RX10 yX10_restore yX10_restore, .code yX10_restore cX10_restore 1 (some .int), .methodLink RL 150 yX11_restore, .instanceMethod yX11_restore, .selects RX11 yX11_restore yX11_restore, .code yX11_restore cX11_restore 1 (some .int)]
def W_35 : List Cond := [.methodLink RL 151 yX10_count, .instanceMethod yX10_count, .selects RX10 yX10_count yX10_count, .code yX10_count cX10_count 2 (some .int), .methodLink RL 154 yX11_count, .instanceMethod yX11_count, .selects RX11 yX11_count yX11_count, .code yX11_count cX11_count 2 (some .int), .methodLink RL 155 yX10_keep, .instanceMethod yX10_keep, .selects RX10 yX10_keep yX10_keep, .code yX10_keep cX10_keep 5 (some .int), .methodLink RX10 330 yX2_isKind, .methodLink RX10 333 yX5_takeGround, .instanceMethod yX5_takeGround, .selects RX5 yX5_takeGround yX5_takeGround, .code yX5_takeGround cX5_takeGround 3 none, .methodLink RL 159 yX11_keep, .instanceMethod yX11_keep, .selects RX11 yX11_keep yX11_keep, .code yX11_keep cX11_keep 5 (some .int), .methodLink RL 160 yX10_row, .instanceMethod yX10_row, .selects RX10 yX10_row yX10_row, .code yX10_row cX10_row 4 (some .int), .methodLink RX10 336 yX5_takeRow, .instanceMethod yX5_takeRow, .selects RX5 yX5_takeRow yX5_takeRow, .code yX5_takeRow cX5_takeRow 3 none, .methodLink RX5 31 yJ7_fill_d0a16]
def W_36 : List Cond := [.methodLink RL 163 yX11_row, .instanceMethod yX11_row, .selects RX11 yX11_row yX11_row, .code yX11_row cX11_row 5 (some .int), .methodLink RL 164 yX10_put, .instanceMethod yX10_put, .selects RX10 yX10_put yX10_put, .code yX10_put cX10_put 5 (some .int), .methodLink RX10 339 yX5_hasPlace, .instanceMethod yX5_hasPlace, .selects RX5 yX5_hasPlace yX5_hasPlace, .code yX5_hasPlace cX5_hasPlace 2 (some .boolean), .methodLink RX10 342 yX5_write, .instanceMethod yX5_write, .selects RX5 yX5_write yX5_write, .code yX5_write cX5_write 3 none, .methodLink RL 167 yX11_put, .instanceMethod yX11_put, .selects RX11 yX11_put yX11_put, .code yX11_put cX11_put 5 (some .int), .methodLink RX11 324 yX11_narrowed, .static yX11_narrowed, .code yX11_narrowed cX11_narrowed 2 (some .long), .methodLink RL 168 yL_element, .static yL_element, .initialized RL, .codeWith yL_element cL_element 5 (some .int) [(0, 9, 12, 13), (0, 9, 16, 15)], .classLink RL 13 "java/lang/IllegalArgumentException", .classLink RL 15 "java/lang/IllegalStateException", .methodLink RL 7 yX10_element]
def W_37 : List Cond := [.instanceMethod yX10_element, .selects RX10 yX10_element yX10_element, .code yX10_element cX10_element 3 (some .long), .classLink RX10 345 "java/lang/IllegalArgumentException", .initialized "java/lang/IllegalArgumentException", .classLink RX10 352 "java/lang/IllegalStateException", .initialized "java/lang/IllegalStateException", .methodLink RX10 359 yX5_numberAt, .methodLink RL 173 yX11_element, .instanceMethod yX11_element, .selects RX11 yX11_element yX11_element, .code yX11_element cX11_element 4 (some .long), .methodLink RL 174 yX11_thrown, .instanceMethod yX11_thrown, .selects RX11 yX11_thrown yX11_thrown, .code yX11_thrown cX11_thrown 1 (some .int), .methodLink RL 177 yX10_copy, .instanceMethod yX10_copy, .selects RX10 yX10_copy yX10_copy, .code yX10_copy cX10_copy 8 (some .int), .fieldLink RX10 365 "NineMilesOff$Shelf" "numbers" "[J", .methodLink RX10 369 arraycopyName, .native arraycopyName, .static arraycopyName, .initialized "java/lang/System", .methodLink RX10 362 yX5_hasPlaces, .instanceMethod yX5_hasPlaces, .selects RX5 yX5_hasPlaces yX5_hasPlaces, .code yX5_hasPlaces cX5_hasPlaces 3 (some .boolean), .methodLink RL 181 yX11_copy]
def W_38 : List Cond := [.instanceMethod yX11_copy, .selects RX11 yX11_copy yX11_copy, .code yX11_copy cX11_copy 7 (some .int), .methodLink RL 182 yX10_cost, .instanceMethod yX10_cost, .selects RX10 yX10_cost yX10_cost, .code yX10_cost cX10_cost 3 (some .int), .methodLink RX10 375 yX2_costOf, .static yX2_costOf, .code yX2_costOf cX2_costOf 2 (some .int), .methodLink RX2 9 Lib.Math.max.name, .methodLink RL 185 yX11_cost, .instanceMethod yX11_cost, .selects RX11 yX11_cost yX11_cost, .code yX11_cost cX11_cost 2 (some .int), .methodLink RX11 328 yX11_costOf, .static yX11_costOf, .code yX11_costOf cX11_costOf 2 (some .int), .methodLink RL 186 yX10_toss, .instanceMethod yX10_toss, .selects RX10 yX10_toss yX10_toss, .codeWith yX10_toss cX10_toss 6 (some .int) [(31, 37, 40, 381), (31, 37, 53, 352), (31, 37, 61, 345)], .classLink RX10 381 "java/lang/UnsupportedOperationException", .methodLink RX10 378 yX2_fail, .static yX2_fail, .code yX2_fail cX2_fail 2 none, .classLink RX2 15 "java/lang/UnsupportedOperationException", .initialized "java/lang/UnsupportedOperationException", .classLink RX2 22 "java/lang/IllegalStateException", .classLink RX2 29 "java/lang/IllegalArgumentException"]
def W_39 : List Cond := [.methodLink RL 189 yX11_toss, .instanceMethod yX11_toss, .selects RX11 yX11_toss yX11_toss, .code yX11_toss cX11_toss 4 (some .int)]
def WS : List Cond := W_0 ++ (W_1 ++ (W_2 ++ (W_3 ++ (W_4 ++ (W_5 ++ (W_6 ++ (W_7 ++ (W_8 ++ (W_9 ++ (W_10 ++ (W_11 ++ (W_12 ++ (W_13 ++ (W_14 ++ (W_15 ++ (W_16 ++ (W_17 ++ (W_18 ++ (W_19 ++ (W_20 ++ (W_21 ++ (W_22 ++ (W_23 ++ (W_24 ++ (W_25 ++ (W_26 ++ (W_27 ++ (W_28 ++ (W_29 ++ (W_30 ++ (W_31 ++ (W_32 ++ (W_33 ++ (W_34 ++ (W_35 ++ (W_36 ++ (W_37 ++ (W_38 ++ (W_39 ++ (wsX00 ++ (wsX30 ++ (wsX40 ++ (wsX50 ++ (wsX90 ++ (wsX100 ++ (wsX110))))))))))))))))))))))))))))))))))))))))))))))
theorem iW0 : ∀ w ∈ W_0, w ∈ WS := fun w h => (List.mem_append_left _ h)
theorem iW1 : ∀ w ∈ W_1, w ∈ WS := fun w h => (List.mem_append_right _ (List.mem_append_left _ h))
theorem iW2 : ∀ w ∈ W_2, w ∈ WS := fun w h => (List.mem_append_right _ (List.mem_append_right _ (List.mem_append_left _ h)))
theorem iW3 : ∀ w ∈ W_3, w ∈ WS := fun w h => (List.mem_append_right _ (List.mem_append_right _ (List.mem_append_right _ (List.mem_append_left _ h))))
theorem iW4 : ∀ w ∈ W_4, w ∈ WS := fun w h => (List.mem_append_right _ (List.mem_append_right _ (List.mem_append_right _ (List.mem_append_right _ (List.mem_append_left _ h)))))
theorem iW5 : ∀ w ∈ W_5, w ∈ WS := fun w h => (List.mem_append_right _ (List.mem_append_right _ (List.mem_append_right _ (List.mem_append_right _ (List.mem_append_right _ (List.mem_append_left _ h))))))
theorem iW6 : ∀ w ∈ W_6, w ∈ WS := fun w h => (List.mem_append_right _ (List.mem_append_right _ (List.mem_append_right _ (List.mem_append_right _ (List.mem_append_right _ (List.mem_append_right _ (List.mem_append_left _ h)))))))
theorem iW7 : ∀ w ∈ W_7, w ∈ WS := fun w h => (List.mem_append_right _ (List.mem_append_right _ (List.mem_append_right _ (List.mem_append_right _ (List.mem_append_right _ (List.mem_append_right _ (List.mem_append_right _ (List.mem_append_left _ h))))))))
theorem iW8 : ∀ w ∈ W_8, w ∈ WS := fun w h => (List.mem_append_right _ (List.mem_append_right _ (List.mem_append_right _ (List.mem_append_right _ (List.mem_append_right _ (List.mem_append_right _ (List.mem_append_right _ (List.mem_append_right _ (List.mem_append_left _ h)))))))))
theorem iW9 : ∀ w ∈ W_9, w ∈ WS := fun w h => (List.mem_append_right _ (List.mem_append_right _ (List.mem_append_right _ (List.mem_append_right _ (List.mem_append_right _ (List.mem_append_right _ (List.mem_append_right _ (List.mem_append_right _ (List.mem_append_right _ (List.mem_append_left _ h))))))))))
theorem iW10 : ∀ w ∈ W_10, w ∈ WS := fun w h => (List.mem_append_right _ (List.mem_append_right _ (List.mem_append_right _ (List.mem_append_right _ (List.mem_append_right _ (List.mem_append_right _ (List.mem_append_right _ (List.mem_append_right _ (List.mem_append_right _ (List.mem_append_right _ (List.mem_append_left _ h)))))))))))
theorem iW11 : ∀ w ∈ W_11, w ∈ WS := fun w h => (List.mem_append_right _ (List.mem_append_right _ (List.mem_append_right _ (List.mem_append_right _ (List.mem_append_right _ (List.mem_append_right _ (List.mem_append_right _ (List.mem_append_right _ (List.mem_append_right _ (List.mem_append_right _ (List.mem_append_right _ (List.mem_append_left _ h))))))))))))
theorem iW12 : ∀ w ∈ W_12, w ∈ WS := fun w h => (List.mem_append_right _ (List.mem_append_right _ (List.mem_append_right _ (List.mem_append_right _ (List.mem_append_right _ (List.mem_append_right _ (List.mem_append_right _ (List.mem_append_right _ (List.mem_append_right _ (List.mem_append_right _ (List.mem_append_right _ (List.mem_append_right _ (List.mem_append_left _ h)))))))))))))
theorem iW13 : ∀ w ∈ W_13, w ∈ WS := fun w h => (List.mem_append_right _ (List.mem_append_right _ (List.mem_append_right _ (List.mem_append_right _ (List.mem_append_right _ (List.mem_append_right _ (List.mem_append_right _ (List.mem_append_right _ (List.mem_append_right _ (List.mem_append_right _ (List.mem_append_right _ (List.mem_append_right _ (List.mem_append_right _ (List.mem_append_left _ h))))))))))))))
theorem iW14 : ∀ w ∈ W_14, w ∈ WS := fun w h => (List.mem_append_right _ (List.mem_append_right _ (List.mem_append_right _ (List.mem_append_right _ (List.mem_append_right _ (List.mem_append_right _ (List.mem_append_right _ (List.mem_append_right _ (List.mem_append_right _ (List.mem_append_right _ (List.mem_append_right _ (List.mem_append_right _ (List.mem_append_right _ (List.mem_append_right _ (List.mem_append_left _ h)))))))))))))))
theorem iW15 : ∀ w ∈ W_15, w ∈ WS := fun w h => (List.mem_append_right _ (List.mem_append_right _ (List.mem_append_right _ (List.mem_append_right _ (List.mem_append_right _ (List.mem_append_right _ (List.mem_append_right _ (List.mem_append_right _ (List.mem_append_right _ (List.mem_append_right _ (List.mem_append_right _ (List.mem_append_right _ (List.mem_append_right _ (List.mem_append_right _ (List.mem_append_right _ (List.mem_append_left _ h))))))))))))))))
theorem iW16 : ∀ w ∈ W_16, w ∈ WS := fun w h => (List.mem_append_right _ (List.mem_append_right _ (List.mem_append_right _ (List.mem_append_right _ (List.mem_append_right _ (List.mem_append_right _ (List.mem_append_right _ (List.mem_append_right _ (List.mem_append_right _ (List.mem_append_right _ (List.mem_append_right _ (List.mem_append_right _ (List.mem_append_right _ (List.mem_append_right _ (List.mem_append_right _ (List.mem_append_right _ (List.mem_append_left _ h)))))))))))))))))
theorem iW17 : ∀ w ∈ W_17, w ∈ WS := fun w h => (List.mem_append_right _ (List.mem_append_right _ (List.mem_append_right _ (List.mem_append_right _ (List.mem_append_right _ (List.mem_append_right _ (List.mem_append_right _ (List.mem_append_right _ (List.mem_append_right _ (List.mem_append_right _ (List.mem_append_right _ (List.mem_append_right _ (List.mem_append_right _ (List.mem_append_right _ (List.mem_append_right _ (List.mem_append_right _ (List.mem_append_right _ (List.mem_append_left _ h))))))))))))))))))
theorem iW18 : ∀ w ∈ W_18, w ∈ WS := fun w h => (List.mem_append_right _ (List.mem_append_right _ (List.mem_append_right _ (List.mem_append_right _ (List.mem_append_right _ (List.mem_append_right _ (List.mem_append_right _ (List.mem_append_right _ (List.mem_append_right _ (List.mem_append_right _ (List.mem_append_right _ (List.mem_append_right _ (List.mem_append_right _ (List.mem_append_right _ (List.mem_append_right _ (List.mem_append_right _ (List.mem_append_right _ (List.mem_append_right _ (List.mem_append_left _ h)))))))))))))))))))
theorem iW19 : ∀ w ∈ W_19, w ∈ WS := fun w h => (List.mem_append_right _ (List.mem_append_right _ (List.mem_append_right _ (List.mem_append_right _ (List.mem_append_right _ (List.mem_append_right _ (List.mem_append_right _ (List.mem_append_right _ (List.mem_append_right _ (List.mem_append_right _ (List.mem_append_right _ (List.mem_append_right _ (List.mem_append_right _ (List.mem_append_right _ (List.mem_append_right _ (List.mem_append_right _ (List.mem_append_right _ (List.mem_append_right _ (List.mem_append_right _ (List.mem_append_left _ h))))))))))))))))))))
theorem iW20 : ∀ w ∈ W_20, w ∈ WS := fun w h => (List.mem_append_right _ (List.mem_append_right _ (List.mem_append_right _ (List.mem_append_right _ (List.mem_append_right _ (List.mem_append_right _ (List.mem_append_right _ (List.mem_append_right _ (List.mem_append_right _ (List.mem_append_right _ (List.mem_append_right _ (List.mem_append_right _ (List.mem_append_right _ (List.mem_append_right _ (List.mem_append_right _ (List.mem_append_right _ (List.mem_append_right _ (List.mem_append_right _ (List.mem_append_right _ (List.mem_append_right _ (List.mem_append_left _ h)))))))))))))))))))))
theorem iW21 : ∀ w ∈ W_21, w ∈ WS := fun w h => (List.mem_append_right _ (List.mem_append_right _ (List.mem_append_right _ (List.mem_append_right _ (List.mem_append_right _ (List.mem_append_right _ (List.mem_append_right _ (List.mem_append_right _ (List.mem_append_right _ (List.mem_append_right _ (List.mem_append_right _ (List.mem_append_right _ (List.mem_append_right _ (List.mem_append_right _ (List.mem_append_right _ (List.mem_append_right _ (List.mem_append_right _ (List.mem_append_right _ (List.mem_append_right _ (List.mem_append_right _ (List.mem_append_right _ (List.mem_append_left _ h))))))))))))))))))))))
theorem iW22 : ∀ w ∈ W_22, w ∈ WS := fun w h => (List.mem_append_right _ (List.mem_append_right _ (List.mem_append_right _ (List.mem_append_right _ (List.mem_append_right _ (List.mem_append_right _ (List.mem_append_right _ (List.mem_append_right _ (List.mem_append_right _ (List.mem_append_right _ (List.mem_append_right _ (List.mem_append_right _ (List.mem_append_right _ (List.mem_append_right _ (List.mem_append_right _ (List.mem_append_right _ (List.mem_append_right _ (List.mem_append_right _ (List.mem_append_right _ (List.mem_append_right _ (List.mem_append_right _ (List.mem_append_right _ (List.mem_append_left _ h)))))))))))))))))))))))
theorem iW23 : ∀ w ∈ W_23, w ∈ WS := fun w h => (List.mem_append_right _ (List.mem_append_right _ (List.mem_append_right _ (List.mem_append_right _ (List.mem_append_right _ (List.mem_append_right _ (List.mem_append_right _ (List.mem_append_right _ (List.mem_append_right _ (List.mem_append_right _ (List.mem_append_right _ (List.mem_append_right _ (List.mem_append_right _ (List.mem_append_right _ (List.mem_append_right _ (List.mem_append_right _ (List.mem_append_right _ (List.mem_append_right _ (List.mem_append_right _ (List.mem_append_right _ (List.mem_append_right _ (List.mem_append_right _ (List.mem_append_right _ (List.mem_append_left _ h))))))))))))))))))))))))
theorem iW24 : ∀ w ∈ W_24, w ∈ WS := fun w h => (List.mem_append_right _ (List.mem_append_right _ (List.mem_append_right _ (List.mem_append_right _ (List.mem_append_right _ (List.mem_append_right _ (List.mem_append_right _ (List.mem_append_right _ (List.mem_append_right _ (List.mem_append_right _ (List.mem_append_right _ (List.mem_append_right _ (List.mem_append_right _ (List.mem_append_right _ (List.mem_append_right _ (List.mem_append_right _ (List.mem_append_right _ (List.mem_append_right _ (List.mem_append_right _ (List.mem_append_right _ (List.mem_append_right _ (List.mem_append_right _ (List.mem_append_right _ (List.mem_append_right _ (List.mem_append_left _ h)))))))))))))))))))))))))
theorem iW25 : ∀ w ∈ W_25, w ∈ WS := fun w h => (List.mem_append_right _ (List.mem_append_right _ (List.mem_append_right _ (List.mem_append_right _ (List.mem_append_right _ (List.mem_append_right _ (List.mem_append_right _ (List.mem_append_right _ (List.mem_append_right _ (List.mem_append_right _ (List.mem_append_right _ (List.mem_append_right _ (List.mem_append_right _ (List.mem_append_right _ (List.mem_append_right _ (List.mem_append_right _ (List.mem_append_right _ (List.mem_append_right _ (List.mem_append_right _ (List.mem_append_right _ (List.mem_append_right _ (List.mem_append_right _ (List.mem_append_right _ (List.mem_append_right _ (List.mem_append_right _ (List.mem_append_left _ h))))))))))))))))))))))))))
theorem iW26 : ∀ w ∈ W_26, w ∈ WS := fun w h => (List.mem_append_right _ (List.mem_append_right _ (List.mem_append_right _ (List.mem_append_right _ (List.mem_append_right _ (List.mem_append_right _ (List.mem_append_right _ (List.mem_append_right _ (List.mem_append_right _ (List.mem_append_right _ (List.mem_append_right _ (List.mem_append_right _ (List.mem_append_right _ (List.mem_append_right _ (List.mem_append_right _ (List.mem_append_right _ (List.mem_append_right _ (List.mem_append_right _ (List.mem_append_right _ (List.mem_append_right _ (List.mem_append_right _ (List.mem_append_right _ (List.mem_append_right _ (List.mem_append_right _ (List.mem_append_right _ (List.mem_append_right _ (List.mem_append_left _ h)))))))))))))))))))))))))))
theorem iW27 : ∀ w ∈ W_27, w ∈ WS := fun w h => (List.mem_append_right _ (List.mem_append_right _ (List.mem_append_right _ (List.mem_append_right _ (List.mem_append_right _ (List.mem_append_right _ (List.mem_append_right _ (List.mem_append_right _ (List.mem_append_right _ (List.mem_append_right _ (List.mem_append_right _ (List.mem_append_right _ (List.mem_append_right _ (List.mem_append_right _ (List.mem_append_right _ (List.mem_append_right _ (List.mem_append_right _ (List.mem_append_right _ (List.mem_append_right _ (List.mem_append_right _ (List.mem_append_right _ (List.mem_append_right _ (List.mem_append_right _ (List.mem_append_right _ (List.mem_append_right _ (List.mem_append_right _ (List.mem_append_right _ (List.mem_append_left _ h))))))))))))))))))))))))))))
theorem iW28 : ∀ w ∈ W_28, w ∈ WS := fun w h => (List.mem_append_right _ (List.mem_append_right _ (List.mem_append_right _ (List.mem_append_right _ (List.mem_append_right _ (List.mem_append_right _ (List.mem_append_right _ (List.mem_append_right _ (List.mem_append_right _ (List.mem_append_right _ (List.mem_append_right _ (List.mem_append_right _ (List.mem_append_right _ (List.mem_append_right _ (List.mem_append_right _ (List.mem_append_right _ (List.mem_append_right _ (List.mem_append_right _ (List.mem_append_right _ (List.mem_append_right _ (List.mem_append_right _ (List.mem_append_right _ (List.mem_append_right _ (List.mem_append_right _ (List.mem_append_right _ (List.mem_append_right _ (List.mem_append_right _ (List.mem_append_right _ (List.mem_append_left _ h)))))))))))))))))))))))))))))
theorem iW29 : ∀ w ∈ W_29, w ∈ WS := fun w h => (List.mem_append_right _ (List.mem_append_right _ (List.mem_append_right _ (List.mem_append_right _ (List.mem_append_right _ (List.mem_append_right _ (List.mem_append_right _ (List.mem_append_right _ (List.mem_append_right _ (List.mem_append_right _ (List.mem_append_right _ (List.mem_append_right _ (List.mem_append_right _ (List.mem_append_right _ (List.mem_append_right _ (List.mem_append_right _ (List.mem_append_right _ (List.mem_append_right _ (List.mem_append_right _ (List.mem_append_right _ (List.mem_append_right _ (List.mem_append_right _ (List.mem_append_right _ (List.mem_append_right _ (List.mem_append_right _ (List.mem_append_right _ (List.mem_append_right _ (List.mem_append_right _ (List.mem_append_right _ (List.mem_append_left _ h))))))))))))))))))))))))))))))
theorem iW30 : ∀ w ∈ W_30, w ∈ WS := fun w h => (List.mem_append_right _ (List.mem_append_right _ (List.mem_append_right _ (List.mem_append_right _ (List.mem_append_right _ (List.mem_append_right _ (List.mem_append_right _ (List.mem_append_right _ (List.mem_append_right _ (List.mem_append_right _ (List.mem_append_right _ (List.mem_append_right _ (List.mem_append_right _ (List.mem_append_right _ (List.mem_append_right _ (List.mem_append_right _ (List.mem_append_right _ (List.mem_append_right _ (List.mem_append_right _ (List.mem_append_right _ (List.mem_append_right _ (List.mem_append_right _ (List.mem_append_right _ (List.mem_append_right _ (List.mem_append_right _ (List.mem_append_right _ (List.mem_append_right _ (List.mem_append_right _ (List.mem_append_right _ (List.mem_append_right _ (List.mem_append_left _ h)))))))))))))))))))))))))))))))
theorem iW31 : ∀ w ∈ W_31, w ∈ WS := fun w h => (List.mem_append_right _ (List.mem_append_right _ (List.mem_append_right _ (List.mem_append_right _ (List.mem_append_right _ (List.mem_append_right _ (List.mem_append_right _ (List.mem_append_right _ (List.mem_append_right _ (List.mem_append_right _ (List.mem_append_right _ (List.mem_append_right _ (List.mem_append_right _ (List.mem_append_right _ (List.mem_append_right _ (List.mem_append_right _ (List.mem_append_right _ (List.mem_append_right _ (List.mem_append_right _ (List.mem_append_right _ (List.mem_append_right _ (List.mem_append_right _ (List.mem_append_right _ (List.mem_append_right _ (List.mem_append_right _ (List.mem_append_right _ (List.mem_append_right _ (List.mem_append_right _ (List.mem_append_right _ (List.mem_append_right _ (List.mem_append_right _ (List.mem_append_left _ h))))))))))))))))))))))))))))))))
theorem iW32 : ∀ w ∈ W_32, w ∈ WS := fun w h => (List.mem_append_right _ (List.mem_append_right _ (List.mem_append_right _ (List.mem_append_right _ (List.mem_append_right _ (List.mem_append_right _ (List.mem_append_right _ (List.mem_append_right _ (List.mem_append_right _ (List.mem_append_right _ (List.mem_append_right _ (List.mem_append_right _ (List.mem_append_right _ (List.mem_append_right _ (List.mem_append_right _ (List.mem_append_right _ (List.mem_append_right _ (List.mem_append_right _ (List.mem_append_right _ (List.mem_append_right _ (List.mem_append_right _ (List.mem_append_right _ (List.mem_append_right _ (List.mem_append_right _ (List.mem_append_right _ (List.mem_append_right _ (List.mem_append_right _ (List.mem_append_right _ (List.mem_append_right _ (List.mem_append_right _ (List.mem_append_right _ (List.mem_append_right _ (List.mem_append_left _ h)))))))))))))))))))))))))))))))))
theorem iW33 : ∀ w ∈ W_33, w ∈ WS := fun w h => (List.mem_append_right _ (List.mem_append_right _ (List.mem_append_right _ (List.mem_append_right _ (List.mem_append_right _ (List.mem_append_right _ (List.mem_append_right _ (List.mem_append_right _ (List.mem_append_right _ (List.mem_append_right _ (List.mem_append_right _ (List.mem_append_right _ (List.mem_append_right _ (List.mem_append_right _ (List.mem_append_right _ (List.mem_append_right _ (List.mem_append_right _ (List.mem_append_right _ (List.mem_append_right _ (List.mem_append_right _ (List.mem_append_right _ (List.mem_append_right _ (List.mem_append_right _ (List.mem_append_right _ (List.mem_append_right _ (List.mem_append_right _ (List.mem_append_right _ (List.mem_append_right _ (List.mem_append_right _ (List.mem_append_right _ (List.mem_append_right _ (List.mem_append_right _ (List.mem_append_right _ (List.mem_append_left _ h))))))))))))))))))))))))))))))))))
theorem iW34 : ∀ w ∈ W_34, w ∈ WS := fun w h => (List.mem_append_right _ (List.mem_append_right _ (List.mem_append_right _ (List.mem_append_right _ (List.mem_append_right _ (List.mem_append_right _ (List.mem_append_right _ (List.mem_append_right _ (List.mem_append_right _ (List.mem_append_right _ (List.mem_append_right _ (List.mem_append_right _ (List.mem_append_right _ (List.mem_append_right _ (List.mem_append_right _ (List.mem_append_right _ (List.mem_append_right _ (List.mem_append_right _ (List.mem_append_right _ (List.mem_append_right _ (List.mem_append_right _ (List.mem_append_right _ (List.mem_append_right _ (List.mem_append_right _ (List.mem_append_right _ (List.mem_append_right _ (List.mem_append_right _ (List.mem_append_right _ (List.mem_append_right _ (List.mem_append_right _ (List.mem_append_right _ (List.mem_append_right _ (List.mem_append_right _ (List.mem_append_right _ (List.mem_append_left _ h)))))))))))))))))))))))))))))))))))
theorem iW35 : ∀ w ∈ W_35, w ∈ WS := fun w h => (List.mem_append_right _ (List.mem_append_right _ (List.mem_append_right _ (List.mem_append_right _ (List.mem_append_right _ (List.mem_append_right _ (List.mem_append_right _ (List.mem_append_right _ (List.mem_append_right _ (List.mem_append_right _ (List.mem_append_right _ (List.mem_append_right _ (List.mem_append_right _ (List.mem_append_right _ (List.mem_append_right _ (List.mem_append_right _ (List.mem_append_right _ (List.mem_append_right _ (List.mem_append_right _ (List.mem_append_right _ (List.mem_append_right _ (List.mem_append_right _ (List.mem_append_right _ (List.mem_append_right _ (List.mem_append_right _ (List.mem_append_right _ (List.mem_append_right _ (List.mem_append_right _ (List.mem_append_right _ (List.mem_append_right _ (List.mem_append_right _ (List.mem_append_right _ (List.mem_append_right _ (List.mem_append_right _ (List.mem_append_right _ (List.mem_append_left _ h))))))))))))))))))))))))))))))))))))
theorem iW36 : ∀ w ∈ W_36, w ∈ WS := fun w h => (List.mem_append_right _ (List.mem_append_right _ (List.mem_append_right _ (List.mem_append_right _ (List.mem_append_right _ (List.mem_append_right _ (List.mem_append_right _ (List.mem_append_right _ (List.mem_append_right _ (List.mem_append_right _ (List.mem_append_right _ (List.mem_append_right _ (List.mem_append_right _ (List.mem_append_right _ (List.mem_append_right _ (List.mem_append_right _ (List.mem_append_right _ (List.mem_append_right _ (List.mem_append_right _ (List.mem_append_right _ (List.mem_append_right _ (List.mem_append_right _ (List.mem_append_right _ (List.mem_append_right _ (List.mem_append_right _ (List.mem_append_right _ (List.mem_append_right _ (List.mem_append_right _ (List.mem_append_right _ (List.mem_append_right _ (List.mem_append_right _ (List.mem_append_right _ (List.mem_append_right _ (List.mem_append_right _ (List.mem_append_right _ (List.mem_append_right _ (List.mem_append_left _ h)))))))))))))))))))))))))))))))))))))
theorem iW37 : ∀ w ∈ W_37, w ∈ WS := fun w h => (List.mem_append_right _ (List.mem_append_right _ (List.mem_append_right _ (List.mem_append_right _ (List.mem_append_right _ (List.mem_append_right _ (List.mem_append_right _ (List.mem_append_right _ (List.mem_append_right _ (List.mem_append_right _ (List.mem_append_right _ (List.mem_append_right _ (List.mem_append_right _ (List.mem_append_right _ (List.mem_append_right _ (List.mem_append_right _ (List.mem_append_right _ (List.mem_append_right _ (List.mem_append_right _ (List.mem_append_right _ (List.mem_append_right _ (List.mem_append_right _ (List.mem_append_right _ (List.mem_append_right _ (List.mem_append_right _ (List.mem_append_right _ (List.mem_append_right _ (List.mem_append_right _ (List.mem_append_right _ (List.mem_append_right _ (List.mem_append_right _ (List.mem_append_right _ (List.mem_append_right _ (List.mem_append_right _ (List.mem_append_right _ (List.mem_append_right _ (List.mem_append_right _ (List.mem_append_left _ h))))))))))))))))))))))))))))))))))))))
theorem iW38 : ∀ w ∈ W_38, w ∈ WS := fun w h => (List.mem_append_right _ (List.mem_append_right _ (List.mem_append_right _ (List.mem_append_right _ (List.mem_append_right _ (List.mem_append_right _ (List.mem_append_right _ (List.mem_append_right _ (List.mem_append_right _ (List.mem_append_right _ (List.mem_append_right _ (List.mem_append_right _ (List.mem_append_right _ (List.mem_append_right _ (List.mem_append_right _ (List.mem_append_right _ (List.mem_append_right _ (List.mem_append_right _ (List.mem_append_right _ (List.mem_append_right _ (List.mem_append_right _ (List.mem_append_right _ (List.mem_append_right _ (List.mem_append_right _ (List.mem_append_right _ (List.mem_append_right _ (List.mem_append_right _ (List.mem_append_right _ (List.mem_append_right _ (List.mem_append_right _ (List.mem_append_right _ (List.mem_append_right _ (List.mem_append_right _ (List.mem_append_right _ (List.mem_append_right _ (List.mem_append_right _ (List.mem_append_right _ (List.mem_append_right _ (List.mem_append_left _ h)))))))))))))))))))))))))))))))))))))))
theorem iW39 : ∀ w ∈ W_39, w ∈ WS := fun w h => (List.mem_append_right _ (List.mem_append_right _ (List.mem_append_right _ (List.mem_append_right _ (List.mem_append_right _ (List.mem_append_right _ (List.mem_append_right _ (List.mem_append_right _ (List.mem_append_right _ (List.mem_append_right _ (List.mem_append_right _ (List.mem_append_right _ (List.mem_append_right _ (List.mem_append_right _ (List.mem_append_right _ (List.mem_append_right _ (List.mem_append_right _ (List.mem_append_right _ (List.mem_append_right _ (List.mem_append_right _ (List.mem_append_right _ (List.mem_append_right _ (List.mem_append_right _ (List.mem_append_right _ (List.mem_append_right _ (List.mem_append_right _ (List.mem_append_right _ (List.mem_append_right _ (List.mem_append_right _ (List.mem_append_right _ (List.mem_append_right _ (List.mem_append_right _ (List.mem_append_right _ (List.mem_append_right _ (List.mem_append_right _ (List.mem_append_right _ (List.mem_append_right _ (List.mem_append_right _ (List.mem_append_right _ (List.mem_append_left _ h))))))))))))))))))))))))))))))))))))))))
theorem iCX0 : ∀ w ∈ wsX00, w ∈ WS := fun w h => (List.mem_append_right _ (List.mem_append_right _ (List.mem_append_right _ (List.mem_append_right _ (List.mem_append_right _ (List.mem_append_right _ (List.mem_append_right _ (List.mem_append_right _ (List.mem_append_right _ (List.mem_append_right _ (List.mem_append_right _ (List.mem_append_right _ (List.mem_append_right _ (List.mem_append_right _ (List.mem_append_right _ (List.mem_append_right _ (List.mem_append_right _ (List.mem_append_right _ (List.mem_append_right _ (List.mem_append_right _ (List.mem_append_right _ (List.mem_append_right _ (List.mem_append_right _ (List.mem_append_right _ (List.mem_append_right _ (List.mem_append_right _ (List.mem_append_right _ (List.mem_append_right _ (List.mem_append_right _ (List.mem_append_right _ (List.mem_append_right _ (List.mem_append_right _ (List.mem_append_right _ (List.mem_append_right _ (List.mem_append_right _ (List.mem_append_right _ (List.mem_append_right _ (List.mem_append_right _ (List.mem_append_right _ (List.mem_append_right _ (List.mem_append_left _ h)))))))))))))))))))))))))))))))))))))))))
theorem iCX3 : ∀ w ∈ wsX30, w ∈ WS := fun w h => (List.mem_append_right _ (List.mem_append_right _ (List.mem_append_right _ (List.mem_append_right _ (List.mem_append_right _ (List.mem_append_right _ (List.mem_append_right _ (List.mem_append_right _ (List.mem_append_right _ (List.mem_append_right _ (List.mem_append_right _ (List.mem_append_right _ (List.mem_append_right _ (List.mem_append_right _ (List.mem_append_right _ (List.mem_append_right _ (List.mem_append_right _ (List.mem_append_right _ (List.mem_append_right _ (List.mem_append_right _ (List.mem_append_right _ (List.mem_append_right _ (List.mem_append_right _ (List.mem_append_right _ (List.mem_append_right _ (List.mem_append_right _ (List.mem_append_right _ (List.mem_append_right _ (List.mem_append_right _ (List.mem_append_right _ (List.mem_append_right _ (List.mem_append_right _ (List.mem_append_right _ (List.mem_append_right _ (List.mem_append_right _ (List.mem_append_right _ (List.mem_append_right _ (List.mem_append_right _ (List.mem_append_right _ (List.mem_append_right _ (List.mem_append_right _ (List.mem_append_left _ h))))))))))))))))))))))))))))))))))))))))))
theorem iCX4 : ∀ w ∈ wsX40, w ∈ WS := fun w h => (List.mem_append_right _ (List.mem_append_right _ (List.mem_append_right _ (List.mem_append_right _ (List.mem_append_right _ (List.mem_append_right _ (List.mem_append_right _ (List.mem_append_right _ (List.mem_append_right _ (List.mem_append_right _ (List.mem_append_right _ (List.mem_append_right _ (List.mem_append_right _ (List.mem_append_right _ (List.mem_append_right _ (List.mem_append_right _ (List.mem_append_right _ (List.mem_append_right _ (List.mem_append_right _ (List.mem_append_right _ (List.mem_append_right _ (List.mem_append_right _ (List.mem_append_right _ (List.mem_append_right _ (List.mem_append_right _ (List.mem_append_right _ (List.mem_append_right _ (List.mem_append_right _ (List.mem_append_right _ (List.mem_append_right _ (List.mem_append_right _ (List.mem_append_right _ (List.mem_append_right _ (List.mem_append_right _ (List.mem_append_right _ (List.mem_append_right _ (List.mem_append_right _ (List.mem_append_right _ (List.mem_append_right _ (List.mem_append_right _ (List.mem_append_right _ (List.mem_append_right _ (List.mem_append_left _ h)))))))))))))))))))))))))))))))))))))))))))
theorem iCX5 : ∀ w ∈ wsX50, w ∈ WS := fun w h => (List.mem_append_right _ (List.mem_append_right _ (List.mem_append_right _ (List.mem_append_right _ (List.mem_append_right _ (List.mem_append_right _ (List.mem_append_right _ (List.mem_append_right _ (List.mem_append_right _ (List.mem_append_right _ (List.mem_append_right _ (List.mem_append_right _ (List.mem_append_right _ (List.mem_append_right _ (List.mem_append_right _ (List.mem_append_right _ (List.mem_append_right _ (List.mem_append_right _ (List.mem_append_right _ (List.mem_append_right _ (List.mem_append_right _ (List.mem_append_right _ (List.mem_append_right _ (List.mem_append_right _ (List.mem_append_right _ (List.mem_append_right _ (List.mem_append_right _ (List.mem_append_right _ (List.mem_append_right _ (List.mem_append_right _ (List.mem_append_right _ (List.mem_append_right _ (List.mem_append_right _ (List.mem_append_right _ (List.mem_append_right _ (List.mem_append_right _ (List.mem_append_right _ (List.mem_append_right _ (List.mem_append_right _ (List.mem_append_right _ (List.mem_append_right _ (List.mem_append_right _ (List.mem_append_right _ (List.mem_append_left _ h))))))))))))))))))))))))))))))))))))))))))))
theorem iCX9 : ∀ w ∈ wsX90, w ∈ WS := fun w h => (List.mem_append_right _ (List.mem_append_right _ (List.mem_append_right _ (List.mem_append_right _ (List.mem_append_right _ (List.mem_append_right _ (List.mem_append_right _ (List.mem_append_right _ (List.mem_append_right _ (List.mem_append_right _ (List.mem_append_right _ (List.mem_append_right _ (List.mem_append_right _ (List.mem_append_right _ (List.mem_append_right _ (List.mem_append_right _ (List.mem_append_right _ (List.mem_append_right _ (List.mem_append_right _ (List.mem_append_right _ (List.mem_append_right _ (List.mem_append_right _ (List.mem_append_right _ (List.mem_append_right _ (List.mem_append_right _ (List.mem_append_right _ (List.mem_append_right _ (List.mem_append_right _ (List.mem_append_right _ (List.mem_append_right _ (List.mem_append_right _ (List.mem_append_right _ (List.mem_append_right _ (List.mem_append_right _ (List.mem_append_right _ (List.mem_append_right _ (List.mem_append_right _ (List.mem_append_right _ (List.mem_append_right _ (List.mem_append_right _ (List.mem_append_right _ (List.mem_append_right _ (List.mem_append_right _ (List.mem_append_right _ (List.mem_append_left _ h)))))))))))))))))))))))))))))))))))))))))))))
theorem iCX10 : ∀ w ∈ wsX100, w ∈ WS := fun w h => (List.mem_append_right _ (List.mem_append_right _ (List.mem_append_right _ (List.mem_append_right _ (List.mem_append_right _ (List.mem_append_right _ (List.mem_append_right _ (List.mem_append_right _ (List.mem_append_right _ (List.mem_append_right _ (List.mem_append_right _ (List.mem_append_right _ (List.mem_append_right _ (List.mem_append_right _ (List.mem_append_right _ (List.mem_append_right _ (List.mem_append_right _ (List.mem_append_right _ (List.mem_append_right _ (List.mem_append_right _ (List.mem_append_right _ (List.mem_append_right _ (List.mem_append_right _ (List.mem_append_right _ (List.mem_append_right _ (List.mem_append_right _ (List.mem_append_right _ (List.mem_append_right _ (List.mem_append_right _ (List.mem_append_right _ (List.mem_append_right _ (List.mem_append_right _ (List.mem_append_right _ (List.mem_append_right _ (List.mem_append_right _ (List.mem_append_right _ (List.mem_append_right _ (List.mem_append_right _ (List.mem_append_right _ (List.mem_append_right _ (List.mem_append_right _ (List.mem_append_right _ (List.mem_append_right _ (List.mem_append_right _ (List.mem_append_right _ (List.mem_append_left _ h))))))))))))))))))))))))))))))))))))))))))))))
theorem iCX11 : ∀ w ∈ wsX110, w ∈ WS := fun w h => (List.mem_append_right _ (List.mem_append_right _ (List.mem_append_right _ (List.mem_append_right _ (List.mem_append_right _ (List.mem_append_right _ (List.mem_append_right _ (List.mem_append_right _ (List.mem_append_right _ (List.mem_append_right _ (List.mem_append_right _ (List.mem_append_right _ (List.mem_append_right _ (List.mem_append_right _ (List.mem_append_right _ (List.mem_append_right _ (List.mem_append_right _ (List.mem_append_right _ (List.mem_append_right _ (List.mem_append_right _ (List.mem_append_right _ (List.mem_append_right _ (List.mem_append_right _ (List.mem_append_right _ (List.mem_append_right _ (List.mem_append_right _ (List.mem_append_right _ (List.mem_append_right _ (List.mem_append_right _ (List.mem_append_right _ (List.mem_append_right _ (List.mem_append_right _ (List.mem_append_right _ (List.mem_append_right _ (List.mem_append_right _ (List.mem_append_right _ (List.mem_append_right _ (List.mem_append_right _ (List.mem_append_right _ (List.mem_append_right _ (List.mem_append_right _ (List.mem_append_right _ (List.mem_append_right _ (List.mem_append_right _ (List.mem_append_right _ (List.mem_append_right _ h))))))))))))))))))))))))))))))))))))))))))))))
theorem WS_good : WS.all goodWord = true := by decide +kernel
end
section
def tX0_init_0 : List (Nat × Instr × Nat) := [(0, .aload_n 0, 1), (1, .invokespecial 3, 3), (4, .aload_n 0, 1), (5, .bipush 36, 2), (7, .newarray .int, 2), (9, .putfield 9, 3), (12, .aload_n 0, 1), (13, .sipush 1296, 3), (16, .newarray .int, 2), (18, .putfield 15, 3), (21, .aload_n 0, 1), (22, .bipush 36, 2), (24, .newarray .long, 2), (26, .putfield 18, 3), (29, .aload_n 0, 1), (30, .bipush 36, 2), (32, .newarray .long, 2), (34, .putfield 22, 3), (37, .aload_n 0, 1), (38, .bipush 36, 2), (40, .newarray .long, 2), (42, .putfield 25, 3), (45, .aload_n 0, 1), (46, .bipush 36, 2), (48, .newarray .long, 2), (50, .putfield 28, 3), (53, .aload_n 0, 1), (54, .sipush 1296, 3), (57, .newarray .int, 2), (59, .putfield 31, 3), (62, .aload_n 0, 1), (63, .sipush 1296, 3)]
theorem dX0_init_0 : ∀ q ∈ tX0_init_0, decode cX0_init q.1 = .ok q.2 := by decide +kernel
def tX0_init_1 : List (Nat × Instr × Nat) := [(66, .newarray .long, 2), (68, .putfield 34, 3), (71, .aload_n 0, 1), (72, .sipush 1296, 3), (75, .newarray .long, 2), (77, .putfield 37, 3), (80, .return_, 1)]
theorem dX0_init_1 : ∀ q ∈ tX0_init_1, decode cX0_init q.1 = .ok q.2 := by decide +kernel
def tX0_lay_0 : List (Nat × Instr × Nat) := [(0, .iconst 0, 1), (1, .istore_n 2, 1), (2, .iload_n 2, 1), (3, .bipush 36, 2), (5, .if_icmp .ge 20, 3), (8, .aload_n 0, 1), (9, .getfield 9, 3), (12, .iload_n 2, 1), (13, .aload_n 1, 1), (14, .iload_n 2, 1), (15, .invokevirtual 40, 3), (18, .iastore, 1), (19, .iinc 2 1, 3), (22, .goto (-20), 3), (25, .iconst 0, 1), (26, .istore_n 2, 1), (27, .iload_n 2, 1), (28, .bipush 36, 2), (30, .if_icmp .ge 62, 3), (33, .iconst 0, 1), (34, .istore_n 3, 1), (35, .iload_n 3, 1), (36, .bipush 36, 2), (38, .if_icmp .ge 48, 3), (41, .aload_n 0, 1), (42, .getfield 9, 3), (45, .iload_n 2, 1), (46, .iaload, 1), (47, .aload_n 0, 1), (48, .getfield 9, 3), (51, .iload_n 3, 1), (52, .iaload, 1)]
theorem dX0_lay_0 : ∀ q ∈ tX0_lay_0, decode cX0_lay q.1 = .ok q.2 := by decide +kernel
def tX0_lay_1 : List (Nat × Instr × Nat) := [(53, .isub, 1), (54, .invokestatic 46, 3), (57, .istore 4, 2), (59, .aload_n 0, 1), (60, .getfield 15, 3), (63, .iload_n 2, 1), (64, .bipush 36, 2), (66, .imul, 1), (67, .iload_n 3, 1), (68, .iadd, 1), (69, .iload_n 2, 1), (70, .iload_n 3, 1), (71, .invokestatic 51, 3), (74, .iload 4, 2), (76, .iconst 2, 1), (77, .idiv, 1), (78, .iadd, 1), (79, .iastore, 1), (80, .iinc 3 1, 3), (83, .goto (-48), 3), (86, .iinc 2 1, 3), (89, .goto (-62), 3), (92, .aload_n 0, 1), (93, .aload_n 1, 1), (94, .getfield 57, 3), (97, .aload_n 1, 1), (98, .getfield 61, 3), (101, .invokevirtual 64, 3), (104, .aload_n 0, 1), (105, .aload_n 1, 1), (106, .invokevirtual 68, 3), (109, .invokevirtual 72, 3)]
theorem dX0_lay_1 : ∀ q ∈ tX0_lay_1, decode cX0_lay q.1 = .ok q.2 := by decide +kernel
def tX0_lay_2 : List (Nat × Instr × Nat) := [(112, .return_, 1)]
theorem dX0_lay_2 : ∀ q ∈ tX0_lay_2, decode cX0_lay q.1 = .ok q.2 := by decide +kernel
def tX0_bound_0 : List (Nat × Instr × Nat) := [(0, .iconst 0, 1), (1, .istore_n 3, 1), (2, .iload_n 3, 1), (3, .bipush 36, 2), (5, .if_icmp .ge 71, 3), (8, .lconst 0, 1), (9, .lstore 4, 2), (11, .iconst 0, 1), (12, .istore 6, 2), (14, .iload 6, 2), (16, .bipush 36, 2), (18, .if_icmp .ge 44, 3), (21, .aload_n 0, 1), (22, .getfield 15, 3), (25, .iload_n 3, 1), (26, .bipush 36, 2), (28, .imul, 1), (29, .iload 6, 2), (31, .iadd, 1), (32, .iaload, 1), (33, .istore 7, 2), (35, .iload 7, 2), (37, .iload_n 1, 1), (38, .if_icmp .lt 18, 3), (41, .iload 7, 2), (43, .iload_n 2, 1), (44, .if_icmp .gt 12, 3), (47, .lload 4, 2), (49, .lconst 1, 1), (50, .iload 6, 2), (52, .lshl, 1), (53, .lor, 1)]
theorem dX0_bound_0 : ∀ q ∈ tX0_bound_0, decode cX0_bound q.1 = .ok q.2 := by decide +kernel
def tX0_bound_1 : List (Nat × Instr × Nat) := [(54, .lstore 4, 2), (56, .iinc 6 1, 3), (59, .goto (-45), 3), (62, .aload_n 0, 1), (63, .getfield 18, 3), (66, .iload_n 3, 1), (67, .lload 4, 2), (69, .lastore, 1), (70, .iinc 3 1, 3), (73, .goto (-71), 3), (76, .return_, 1)]
theorem dX0_bound_1 : ∀ q ∈ tX0_bound_1, decode cX0_bound q.1 = .ok q.2 := by decide +kernel
def tX0_admit_0 : List (Nat × Instr × Nat) := [(0, .iconst 0, 1), (1, .istore_n 3, 1), (2, .iload_n 3, 1), (3, .bipush 36, 2), (5, .if_icmp .ge 35, 3), (8, .aload_n 0, 1), (9, .getfield 22, 3), (12, .iload_n 3, 1), (13, .lload_n 1, 1), (14, .iload_n 3, 1), (15, .invokestatic 76, 3), (18, .ifCond .eq 14, 3), (21, .aload_n 0, 1), (22, .getfield 18, 3), (25, .iload_n 3, 1), (26, .laload, 1), (27, .lload_n 1, 1), (28, .land, 1), (29, .goto 4, 3), (32, .lconst 0, 1), (33, .lastore, 1), (34, .iinc 3 1, 3), (37, .goto (-35), 3), (40, .return_, 1)]
theorem dX0_admit_0 : ∀ q ∈ tX0_admit_0, decode cX0_admit q.1 = .ok q.2 := by decide +kernel
def tX0_nearOf_0 : List (Nat × Instr × Nat) := [(0, .iload_n 1, 1), (1, .i2l, 1), (2, .invokestatic 80, 3), (5, .ifCond .eq 12, 3), (8, .aload_n 0, 1), (9, .getfield 18, 3), (12, .iload_n 1, 1), (13, .laload, 1), (14, .goto 4, 3), (17, .lconst 0, 1), (18, .lreturn, 1)]
theorem dX0_nearOf_0 : ∀ q ∈ tX0_nearOf_0, decode cX0_nearOf q.1 = .ok q.2 := by decide +kernel
def tX0_isPair_0 : List (Nat × Instr × Nat) := [(0, .iload_n 1, 1), (1, .i2l, 1), (2, .invokestatic 80, 3), (5, .ifCond .eq 20, 3), (8, .aload_n 0, 1), (9, .getfield 22, 3), (12, .iload_n 1, 1), (13, .laload, 1), (14, .iload_n 2, 1), (15, .invokestatic 76, 3), (18, .ifCond .eq 7, 3), (21, .iconst 1, 1), (22, .goto 4, 3), (25, .iconst 0, 1), (26, .ireturn, 1)]
theorem dX0_isPair_0 : ∀ q ∈ tX0_isPair_0, decode cX0_isPair q.1 = .ok q.2 := by decide +kernel
def tX0_pairsInAll_0 : List (Nat × Instr × Nat) := [(0, .aload_n 0, 1), (1, .getfield 22, 3), (4, .invokestatic 84, 3), (7, .ireturn, 1)]
theorem dX0_pairsInAll_0 : ∀ q ∈ tX0_pairsInAll_0, decode cX0_pairsInAll q.1 = .ok q.2 := by decide +kernel
def tX0_bitsOf_0 : List (Nat × Instr × Nat) := [(0, .iconst 0, 1), (1, .istore_n 1, 1), (2, .iconst 0, 1), (3, .istore_n 2, 1), (4, .iload_n 2, 1), (5, .aload_n 0, 1), (6, .arraylength, 1), (7, .if_icmp .ge 18, 3), (10, .iload_n 1, 1), (11, .aload_n 0, 1), (12, .iload_n 2, 1), (13, .laload, 1), (14, .invokestatic 88, 3), (17, .iadd, 1), (18, .istore_n 1, 1), (19, .iinc 2 1, 3), (22, .goto (-18), 3), (25, .iload_n 1, 1), (26, .ireturn, 1)]
theorem dX0_bitsOf_0 : ∀ q ∈ tX0_bitsOf_0, decode cX0_bitsOf q.1 = .ok q.2 := by decide +kernel
def tX0_pairAt_0 : List (Nat × Instr × Nat) := [(0, .iload_n 1, 1), (1, .istore_n 2, 1), (2, .iconst 0, 1), (3, .istore_n 3, 1), (4, .iload_n 3, 1), (5, .bipush 36, 2), (7, .if_icmp .ge 54, 3), (10, .iconst 0, 1), (11, .istore 4, 2), (13, .iload 4, 2), (15, .bipush 36, 2), (17, .if_icmp .ge 38, 3), (20, .aload_n 0, 1), (21, .getfield 22, 3), (24, .iload_n 3, 1), (25, .laload, 1), (26, .iload 4, 2), (28, .invokestatic 76, 3), (31, .ifCond .eq 18, 3), (34, .iload_n 2, 1), (35, .ifCond .ne 11, 3), (38, .bipush 100, 2), (40, .iload_n 3, 1), (41, .imul, 1), (42, .iload 4, 2), (44, .iadd, 1), (45, .ireturn, 1), (46, .iinc 2 (-1), 3), (49, .iinc 4 1, 3), (52, .goto (-39), 3), (55, .iinc 3 1, 3), (58, .goto (-54), 3)]
theorem dX0_pairAt_0 : ∀ q ∈ tX0_pairAt_0, decode cX0_pairAt q.1 = .ok q.2 := by decide +kernel
def tX0_pairAt_1 : List (Nat × Instr × Nat) := [(61, .bipush (-4), 2), (63, .ireturn, 1)]
theorem dX0_pairAt_1 : ∀ q ∈ tX0_pairAt_1, decode cX0_pairAt q.1 = .ok q.2 := by decide +kernel
def tX0_farsInAll_0 : List (Nat × Instr × Nat) := [(0, .lconst 0, 1), (1, .lstore_n 1, 1), (2, .iconst 0, 1), (3, .istore_n 3, 1), (4, .iload_n 3, 1), (5, .bipush 36, 2), (7, .if_icmp .ge 55, 3), (10, .iconst 0, 1), (11, .istore 4, 2), (13, .iload 4, 2), (15, .bipush 36, 2), (17, .if_icmp .ge 39, 3), (20, .aload_n 0, 1), (21, .getfield 22, 3), (24, .iload_n 3, 1), (25, .laload, 1), (26, .iload 4, 2), (28, .invokestatic 76, 3), (31, .ifCond .eq 19, 3), (34, .lload_n 1, 1), (35, .aload_n 0, 1), (36, .getfield 15, 3), (39, .iload_n 3, 1), (40, .bipush 36, 2), (42, .imul, 1), (43, .iload 4, 2), (45, .iadd, 1), (46, .iaload, 1), (47, .i2l, 1), (48, .ladd, 1), (49, .lstore_n 1, 1), (50, .iinc 4 1, 3)]
theorem dX0_farsInAll_0 : ∀ q ∈ tX0_farsInAll_0, decode cX0_farsInAll q.1 = .ok q.2 := by decide +kernel
def tX0_farsInAll_1 : List (Nat × Instr × Nat) := [(53, .goto (-40), 3), (56, .iinc 3 1, 3), (59, .goto (-55), 3), (62, .lload_n 1, 1), (63, .lreturn, 1)]
theorem dX0_farsInAll_1 : ∀ q ∈ tX0_farsInAll_1, decode cX0_farsInAll q.1 = .ok q.2 := by decide +kernel
def tX0_start_0 : List (Nat × Instr × Nat) := [(0, .aload_n 0, 1), (1, .getfield 31, 3), (4, .bipush (-4), 2), (6, .invokestatic 94, 3), (9, .aload_n 0, 1), (10, .getfield 25, 3), (13, .lconst 0, 1), (14, .invokestatic 100, 3), (17, .aload_n 0, 1), (18, .iload_n 1, 1), (19, .iload_n 2, 1), (20, .invokevirtual 103, 3), (23, .ifCond .eq 25, 3), (26, .aload_n 0, 1), (27, .getfield 25, 3), (30, .iload_n 1, 1), (31, .iload_n 2, 1), (32, .invokestatic 107, 3), (35, .lastore, 1), (36, .aload_n 0, 1), (37, .getfield 31, 3), (40, .iload_n 1, 1), (41, .bipush 36, 2), (43, .imul, 1), (44, .iload_n 2, 1), (45, .iadd, 1), (46, .iconst 0, 1), (47, .iastore, 1), (48, .return_, 1)]
theorem dX0_start_0 : ∀ q ∈ tX0_start_0, decode cX0_start q.1 = .ok q.2 := by decide +kernel
def tX0_spreadOn_0 : List (Nat × Instr × Nat) := [(0, .iconst 0, 1), (1, .istore_n 2, 1), (2, .iload_n 2, 1), (3, .bipush 36, 2), (5, .if_icmp .ge 56, 3), (8, .aload_n 0, 1), (9, .getfield 28, 3), (12, .iload_n 2, 1), (13, .aload_n 0, 1), (14, .getfield 22, 3), (17, .iload_n 2, 1), (18, .laload, 1), (19, .lconst 0, 1), (20, .lcmp, 1), (21, .ifCond .ne 7, 3), (24, .lconst 0, 1), (25, .goto 29, 3), (28, .aload_n 0, 1), (29, .iload_n 2, 1), (30, .invokevirtual 111, 3), (33, .invokestatic 114, 3), (36, .aload_n 0, 1), (37, .getfield 22, 3), (40, .iload_n 2, 1), (41, .laload, 1), (42, .land, 1), (43, .aload_n 0, 1), (44, .getfield 25, 3), (47, .iload_n 2, 1), (48, .laload, 1), (49, .ldc2_w 118, 3), (52, .lxor, 1)]
theorem dX0_spreadOn_0 : ∀ q ∈ tX0_spreadOn_0, decode cX0_spreadOn q.1 = .ok q.2 := by decide +kernel
def tX0_spreadOn_1 : List (Nat × Instr × Nat) := [(53, .land, 1), (54, .lastore, 1), (55, .iinc 2 1, 3), (58, .goto (-56), 3), (61, .iconst 0, 1), (62, .istore_n 2, 1), (63, .iconst 0, 1), (64, .istore_n 3, 1), (65, .iload_n 3, 1), (66, .bipush 36, 2), (68, .if_icmp .ge 49, 3), (71, .aload_n 0, 1), (72, .getfield 28, 3), (75, .iload_n 3, 1), (76, .laload, 1), (77, .lconst 0, 1), (78, .lcmp, 1), (79, .ifCond .eq 32, 3), (82, .iconst 1, 1), (83, .istore_n 2, 1), (84, .aload_n 0, 1), (85, .getfield 25, 3), (88, .iload_n 3, 1), (89, .dup2, 1), (90, .laload, 1), (91, .aload_n 0, 1), (92, .getfield 28, 3), (95, .iload_n 3, 1), (96, .laload, 1), (97, .lor, 1), (98, .lastore, 1), (99, .aload_n 0, 1)]
theorem dX0_spreadOn_1 : ∀ q ∈ tX0_spreadOn_1, decode cX0_spreadOn q.1 = .ok q.2 := by decide +kernel
def tX0_spreadOn_2 : List (Nat × Instr × Nat) := [(100, .iload_n 3, 1), (101, .aload_n 0, 1), (102, .getfield 28, 3), (105, .iload_n 3, 1), (106, .laload, 1), (107, .iload_n 1, 1), (108, .invokevirtual 120, 3), (111, .iinc 3 1, 3), (114, .goto (-49), 3), (117, .iload_n 2, 1), (118, .ireturn, 1)]
theorem dX0_spreadOn_2 : ∀ q ∈ tX0_spreadOn_2, decode cX0_spreadOn q.1 = .ok q.2 := by decide +kernel
def tX0_comeAround_0 : List (Nat × Instr × Nat) := [(0, .lconst 0, 1), (1, .lstore_n 2, 1), (2, .iconst 0, 1), (3, .istore 4, 2), (5, .iload 4, 2), (7, .iconst 5, 1), (8, .if_icmp .ge 36, 3), (11, .iload_n 1, 1), (12, .iload 4, 2), (14, .invokestatic 124, 3), (17, .istore 5, 2), (19, .iload 5, 2), (21, .i2l, 1), (22, .invokestatic 80, 3), (25, .ifCond .eq 13, 3), (28, .lload_n 2, 1), (29, .aload_n 0, 1), (30, .getfield 25, 3), (33, .iload 5, 2), (35, .laload, 1), (36, .lor, 1), (37, .lstore_n 2, 1), (38, .iinc 4 1, 3), (41, .goto (-36), 3), (44, .lload_n 2, 1), (45, .lreturn, 1)]
theorem dX0_comeAround_0 : ∀ q ∈ tX0_comeAround_0, decode cX0_comeAround q.1 = .ok q.2 := by decide +kernel
def tX0_mark_0 : List (Nat × Instr × Nat) := [(0, .iconst 0, 1), (1, .istore 5, 2), (3, .iload 5, 2), (5, .bipush 36, 2), (7, .if_icmp .ge 40, 3), (10, .iload_n 1, 1), (11, .i2l, 1), (12, .invokestatic 80, 3), (15, .ifCond .eq 26, 3), (18, .lload_n 2, 1), (19, .iload 5, 2), (21, .invokestatic 76, 3), (24, .ifCond .eq 17, 3), (27, .aload_n 0, 1), (28, .getfield 31, 3), (31, .iload_n 1, 1), (32, .bipush 36, 2), (34, .imul, 1), (35, .iload 5, 2), (37, .iadd, 1), (38, .iload 4, 2), (40, .iastore, 1), (41, .iinc 5 1, 3), (44, .goto (-41), 3), (47, .return_, 1)]
theorem dX0_mark_0 : ∀ q ∈ tX0_mark_0, decode cX0_mark q.1 = .ok q.2 := by decide +kernel
def tX0_daysBetween_0 : List (Nat × Instr × Nat) := [(0, .aload_n 0, 1), (1, .iload_n 1, 1), (2, .iload_n 2, 1), (3, .invokevirtual 103, 3), (6, .ifCond .eq 13, 3), (9, .aload_n 0, 1), (10, .iload_n 3, 1), (11, .iload 4, 2), (13, .invokevirtual 103, 3), (16, .ifCond .ne 6, 3), (19, .bipush (-4), 2), (21, .ireturn, 1), (22, .aload_n 0, 1), (23, .iload_n 3, 1), (24, .iload 4, 2), (26, .invokevirtual 127, 3), (29, .iconst 0, 1), (30, .istore 5, 2), (32, .iload 5, 2), (34, .sipush 1296, 3), (37, .if_icmp .ge 39, 3), (40, .aload_n 0, 1), (41, .getfield 25, 3), (44, .iload_n 1, 1), (45, .laload, 1), (46, .iload_n 2, 1), (47, .invokestatic 76, 3), (50, .ifCond .eq 6, 3), (53, .iload 5, 2), (55, .ireturn, 1), (56, .aload_n 0, 1), (57, .iload 5, 2)]
theorem dX0_daysBetween_0 : ∀ q ∈ tX0_daysBetween_0, decode cX0_daysBetween q.1 = .ok q.2 := by decide +kernel
def tX0_daysBetween_1 : List (Nat × Instr × Nat) := [(59, .iconst 1, 1), (60, .iadd, 1), (61, .invokevirtual 130, 3), (64, .ifCond .ne 6, 3), (67, .bipush (-4), 2), (69, .ireturn, 1), (70, .iinc 5 1, 3), (73, .goto (-41), 3), (76, .bipush (-4), 2), (78, .ireturn, 1)]
theorem dX0_daysBetween_1 : ∀ q ∈ tX0_daysBetween_1, decode cX0_daysBetween q.1 = .ok q.2 := by decide +kernel
def tX0_daysLeft_0 : List (Nat × Instr × Nat) := [(0, .iload_n 1, 1), (1, .i2l, 1), (2, .invokestatic 80, 3), (5, .ifCond .eq 25, 3), (8, .iload_n 2, 1), (9, .i2l, 1), (10, .invokestatic 80, 3), (13, .ifCond .eq 17, 3), (16, .aload_n 0, 1), (17, .getfield 31, 3), (20, .iload_n 1, 1), (21, .bipush 36, 2), (23, .imul, 1), (24, .iload_n 2, 1), (25, .iadd, 1), (26, .iaload, 1), (27, .goto 5, 3), (30, .bipush (-4), 2), (32, .ireturn, 1)]
theorem dX0_daysLeft_0 : ∀ q ∈ tX0_daysLeft_0, decode cX0_daysLeft q.1 = .ok q.2 := by decide +kernel
def tX0_pairOnWay_0 : List (Nat × Instr × Nat) := [(0, .bipush 100, 2), (2, .iload_n 1, 1), (3, .imul, 1), (4, .iload_n 2, 1), (5, .iadd, 1), (6, .istore 4, 2), (8, .iconst 0, 1), (9, .istore 5, 2), (11, .iload 5, 2), (13, .iload_n 3, 1), (14, .if_icmp .ge 33, 3), (17, .iload 5, 2), (19, .sipush 1296, 3), (22, .if_icmp .ge 25, 3), (25, .aload_n 0, 1), (26, .iload 4, 2), (28, .bipush 100, 2), (30, .idiv, 1), (31, .iload 4, 2), (33, .bipush 100, 2), (35, .irem, 1), (36, .invokevirtual 134, 3), (39, .istore 4, 2), (41, .iinc 5 1, 3), (44, .goto (-33), 3), (47, .iload 4, 2), (49, .ireturn, 1)]
theorem dX0_pairOnWay_0 : ∀ q ∈ tX0_pairOnWay_0, decode cX0_pairOnWay q.1 = .ok q.2 := by decide +kernel
def tX0_nextPair_0 : List (Nat × Instr × Nat) := [(0, .aload_n 0, 1), (1, .iload_n 1, 1), (2, .iload_n 2, 1), (3, .invokevirtual 137, 3), (6, .iconst 1, 1), (7, .isub, 1), (8, .istore_n 3, 1), (9, .bipush (-4), 2), (11, .istore 4, 2), (13, .iconst 0, 1), (14, .istore 5, 2), (16, .iload 5, 2), (18, .iconst 5, 1), (19, .if_icmp .ge 84, 3), (22, .iconst 0, 1), (23, .istore 6, 2), (25, .iload 6, 2), (27, .iconst 5, 1), (28, .if_icmp .ge 69, 3), (31, .iload_n 1, 1), (32, .iload 5, 2), (34, .invokestatic 124, 3), (37, .istore 7, 2), (39, .iload_n 2, 1), (40, .iload 6, 2), (42, .invokestatic 124, 3), (45, .istore 8, 2), (47, .bipush 100, 2), (49, .iload 7, 2), (51, .imul, 1), (52, .iload 8, 2), (54, .iadd, 1)]
theorem dX0_nextPair_0 : ∀ q ∈ tX0_nextPair_0, decode cX0_nextPair q.1 = .ok q.2 := by decide +kernel
def tX0_nextPair_1 : List (Nat × Instr × Nat) := [(55, .istore 9, 2), (57, .iload_n 3, 1), (58, .ifCond .lt 33, 3), (61, .aload_n 0, 1), (62, .iload 7, 2), (64, .iload 8, 2), (66, .invokevirtual 137, 3), (69, .iload_n 3, 1), (70, .if_icmp .ne 21, 3), (73, .iload 4, 2), (75, .bipush (-4), 2), (77, .if_icmp .eq 10, 3), (80, .iload 9, 2), (82, .iload 4, 2), (84, .if_icmp .ge 7, 3), (87, .iload 9, 2), (89, .istore 4, 2), (91, .iinc 6 1, 3), (94, .goto (-69), 3), (97, .iinc 5 1, 3), (100, .goto (-84), 3), (103, .iload 4, 2), (105, .ireturn, 1)]
theorem dX0_nextPair_1 : ∀ q ∈ tX0_nextPair_1, decode cX0_nextPair q.1 = .ok q.2 := by decide +kernel
def tX0_pairsWithin_0 : List (Nat × Instr × Nat) := [(0, .aload_n 0, 1), (1, .iload_n 1, 1), (2, .iload_n 2, 1), (3, .invokevirtual 127, 3), (6, .iconst 1, 1), (7, .istore 4, 2), (9, .iload 4, 2), (11, .iload_n 3, 1), (12, .if_icmp .gt 26, 3), (15, .aload_n 0, 1), (16, .iload 4, 2), (18, .invokevirtual 130, 3), (21, .ifCond .ne 11, 3), (24, .aload_n 0, 1), (25, .getfield 25, 3), (28, .invokestatic 84, 3), (31, .ireturn, 1), (32, .iinc 4 1, 3), (35, .goto (-26), 3), (38, .aload_n 0, 1), (39, .getfield 25, 3), (42, .invokestatic 84, 3), (45, .ireturn, 1)]
theorem dX0_pairsWithin_0 : ∀ q ∈ tX0_pairsWithin_0, decode cX0_pairsWithin q.1 = .ok q.2 := by decide +kernel
def tX0_walk_0 : List (Nat × Instr × Nat) := [(0, .aload_n 0, 1), (1, .getfield 34, 3), (4, .lconst 0, 1), (5, .invokestatic 100, 3), (8, .aload_n 0, 1), (9, .iload_n 1, 1), (10, .iload_n 2, 1), (11, .invokevirtual 103, 3), (14, .ifCond .eq 15, 3), (17, .aload_n 0, 1), (18, .getfield 34, 3), (21, .iload_n 1, 1), (22, .bipush 36, 2), (24, .imul, 1), (25, .iload_n 2, 1), (26, .iadd, 1), (27, .lconst 1, 1), (28, .lastore, 1), (29, .iconst 0, 1), (30, .istore 4, 2), (32, .iload 4, 2), (34, .iload_n 3, 1), (35, .if_icmp .ge 17, 3), (38, .aload_n 0, 1), (39, .invokevirtual 140, 3), (42, .aload_n 0, 1), (43, .invokevirtual 143, 3), (46, .iinc 4 1, 3), (49, .goto (-17), 3), (52, .return_, 1)]
theorem dX0_walk_0 : ∀ q ∈ tX0_walk_0, decode cX0_walk q.1 = .ok q.2 := by decide +kernel
def tX0_walkHim_0 : List (Nat × Instr × Nat) := [(0, .aload_n 0, 1), (1, .getfield 37, 3), (4, .lconst 0, 1), (5, .invokestatic 100, 3), (8, .iconst 0, 1), (9, .istore_n 1, 1), (10, .iload_n 1, 1), (11, .bipush 36, 2), (13, .if_icmp .ge 79, 3), (16, .iconst 0, 1), (17, .istore_n 2, 1), (18, .iload_n 2, 1), (19, .iconst 5, 1), (20, .if_icmp .ge 66, 3), (23, .iload_n 1, 1), (24, .iload_n 2, 1), (25, .invokestatic 124, 3), (28, .istore_n 3, 1), (29, .iconst 0, 1), (30, .istore 4, 2), (32, .iload 4, 2), (34, .bipush 36, 2), (36, .if_icmp .ge 44, 3), (39, .iload_n 3, 1), (40, .i2l, 1), (41, .invokestatic 80, 3), (44, .ifCond .eq 36, 3), (47, .aload_n 0, 1), (48, .getfield 37, 3), (51, .iload_n 1, 1), (52, .bipush 36, 2), (54, .imul, 1)]
theorem dX0_walkHim_0 : ∀ q ∈ tX0_walkHim_0, decode cX0_walkHim q.1 = .ok q.2 := by decide +kernel
def tX0_walkHim_1 : List (Nat × Instr × Nat) := [(55, .iload 4, 2), (57, .iadd, 1), (58, .dup2, 1), (59, .laload, 1), (60, .aload_n 0, 1), (61, .getfield 34, 3), (64, .iload_n 3, 1), (65, .bipush 36, 2), (67, .imul, 1), (68, .iload 4, 2), (70, .iadd, 1), (71, .laload, 1), (72, .ladd, 1), (73, .lastore, 1), (74, .iinc 4 1, 3), (77, .goto (-45), 3), (80, .iinc 2 1, 3), (83, .goto (-65), 3), (86, .iinc 1 1, 3), (89, .goto (-79), 3), (92, .return_, 1)]
theorem dX0_walkHim_1 : ∀ q ∈ tX0_walkHim_1, decode cX0_walkHim q.1 = .ok q.2 := by decide +kernel
def tX0_walkHer_0 : List (Nat × Instr × Nat) := [(0, .aload_n 0, 1), (1, .getfield 34, 3), (4, .lconst 0, 1), (5, .invokestatic 100, 3), (8, .iconst 0, 1), (9, .istore_n 1, 1), (10, .iload_n 1, 1), (11, .bipush 36, 2), (13, .if_icmp .ge 95, 3), (16, .iconst 0, 1), (17, .istore_n 2, 1), (18, .iload_n 2, 1), (19, .iconst 5, 1), (20, .if_icmp .ge 82, 3), (23, .iload_n 1, 1), (24, .iload_n 2, 1), (25, .invokestatic 124, 3), (28, .istore_n 3, 1), (29, .iconst 0, 1), (30, .istore 4, 2), (32, .iload 4, 2), (34, .bipush 36, 2), (36, .if_icmp .ge 60, 3), (39, .iload_n 3, 1), (40, .i2l, 1), (41, .invokestatic 80, 3), (44, .ifCond .eq 52, 3), (47, .aload_n 0, 1), (48, .getfield 22, 3), (51, .iload 4, 2), (53, .laload, 1), (54, .iload_n 1, 1)]
theorem dX0_walkHer_0 : ∀ q ∈ tX0_walkHer_0, decode cX0_walkHer q.1 = .ok q.2 := by decide +kernel
def tX0_walkHer_1 : List (Nat × Instr × Nat) := [(55, .lshr, 1), (56, .lconst 1, 1), (57, .land, 1), (58, .lconst 1, 1), (59, .lcmp, 1), (60, .ifCond .ne 30, 3), (63, .aload_n 0, 1), (64, .getfield 34, 3), (67, .iload 4, 2), (69, .bipush 36, 2), (71, .imul, 1), (72, .iload_n 1, 1), (73, .iadd, 1), (74, .dup2, 1), (75, .laload, 1), (76, .aload_n 0, 1), (77, .getfield 37, 3), (80, .iload 4, 2), (82, .bipush 36, 2), (84, .imul, 1), (85, .iload_n 3, 1), (86, .iadd, 1), (87, .laload, 1), (88, .ladd, 1), (89, .lastore, 1), (90, .iinc 4 1, 3), (93, .goto (-61), 3), (96, .iinc 2 1, 3), (99, .goto (-81), 3), (102, .iinc 1 1, 3), (105, .goto (-95), 3), (108, .return_, 1)]
theorem dX0_walkHer_1 : ∀ q ∈ tX0_walkHer_1, decode cX0_walkHer q.1 = .ok q.2 := by decide +kernel
def tX0_walksTo_0 : List (Nat × Instr × Nat) := [(0, .iload_n 1, 1), (1, .i2l, 1), (2, .invokestatic 80, 3), (5, .ifCond .eq 25, 3), (8, .iload_n 2, 1), (9, .i2l, 1), (10, .invokestatic 80, 3), (13, .ifCond .eq 17, 3), (16, .aload_n 0, 1), (17, .getfield 34, 3), (20, .iload_n 1, 1), (21, .bipush 36, 2), (23, .imul, 1), (24, .iload_n 2, 1), (25, .iadd, 1), (26, .laload, 1), (27, .goto 4, 3), (30, .lconst 0, 1), (31, .lreturn, 1)]
theorem dX0_walksTo_0 : ∀ q ∈ tX0_walksTo_0, decode cX0_walksTo q.1 = .ok q.2 := by decide +kernel
def tX0_walksInAll_0 : List (Nat × Instr × Nat) := [(0, .lconst 0, 1), (1, .lstore_n 1, 1), (2, .iconst 0, 1), (3, .istore_n 3, 1), (4, .iload_n 3, 1), (5, .sipush 1296, 3), (8, .if_icmp .ge 18, 3), (11, .lload_n 1, 1), (12, .aload_n 0, 1), (13, .getfield 34, 3), (16, .iload_n 3, 1), (17, .laload, 1), (18, .ladd, 1), (19, .lstore_n 1, 1), (20, .iinc 3 1, 3), (23, .goto (-19), 3), (26, .lload_n 1, 1), (27, .lreturn, 1)]
theorem dX0_walksInAll_0 : ∀ q ∈ tX0_walksInAll_0, decode cX0_walksInAll q.1 = .ok q.2 := by decide +kernel
def tX1_partOf_0 : List (Nat × Instr × Nat) := [(0, .lload_n 0, 1), (1, .lload_n 2, 1), (2, .invokestatic 7, 3), (5, .lstore 5, 2), (7, .lload_n 0, 1), (8, .lconst 0, 1), (9, .lcmp, 1), (10, .ifCond .eq 10, 3), (13, .lload 5, 2), (15, .lconst 0, 1), (16, .lcmp, 1), (17, .ifCond .ne 14, 3), (20, .iload 4, 2), (22, .ifCond .ne 7, 3), (25, .lconst 0, 1), (26, .goto 4, 3), (29, .lconst 1, 1), (30, .lreturn, 1), (31, .iload 4, 2), (33, .ifCond .ne 10, 3), (36, .lload_n 0, 1), (37, .lload 5, 2), (39, .ldiv, 1), (40, .goto 7, 3), (43, .lload_n 2, 1), (44, .lload 5, 2), (46, .ldiv, 1), (47, .lreturn, 1)]
theorem dX1_partOf_0 : ∀ q ∈ tX1_partOf_0, decode cX1_partOf q.1 = .ok q.2 := by decide +kernel
def tX1_commonDivisor_0 : List (Nat × Instr × Nat) := [(0, .lload_n 0, 1), (1, .lstore 4, 2), (3, .lload_n 2, 1), (4, .lstore 6, 2), (6, .iconst 0, 1), (7, .istore 8, 2), (9, .iload 8, 2), (11, .bipush 100, 2), (13, .if_icmp .ge 31, 3), (16, .lload 6, 2), (18, .lconst 0, 1), (19, .lcmp, 1), (20, .ifCond .eq 24, 3), (23, .lload 4, 2), (25, .lload 6, 2), (27, .lrem, 1), (28, .lstore 9, 2), (30, .lload 6, 2), (32, .lstore 4, 2), (34, .lload 9, 2), (36, .lstore 6, 2), (38, .iinc 8 1, 3), (41, .goto (-32), 3), (44, .lload 4, 2), (46, .lreturn, 1)]
theorem dX1_commonDivisor_0 : ∀ q ∈ tX1_commonDivisor_0, decode cX1_commonDivisor q.1 = .ok q.2 := by decide +kernel
def tX2_isKind_0 : List (Nat × Instr × Nat) := [(0, .iload_n 0, 1), (1, .ifCond .lt 13, 3), (4, .iload_n 0, 1), (5, .bipush 7, 2), (7, .if_icmp .gt 7, 3), (10, .iconst 1, 1), (11, .goto 4, 3), (14, .iconst 0, 1), (15, .ireturn, 1)]
theorem dX2_isKind_0 : ∀ q ∈ tX2_isKind_0, decode cX2_isKind q.1 = .ok q.2 := by decide +kernel
def tX2_heightOf_0 : List (Nat × Instr × Nat) := [(0, .iload_n 0, 1), (1, .tableswitch 49 2 6 #[35, 37, 41, 49, 47], 35), (36, .iconst 2, 1), (37, .ireturn, 1), (38, .iconst 2, 1), (39, .iload_n 1, 1), (40, .iadd, 1), (41, .ireturn, 1), (42, .iconst 2, 1), (43, .iload_n 1, 1), (44, .iadd, 1), (45, .iconst 2, 1), (46, .idiv, 1), (47, .ireturn, 1), (48, .iconst 1, 1), (49, .ireturn, 1), (50, .iconst 0, 1), (51, .ireturn, 1)]
theorem dX2_heightOf_0 : ∀ q ∈ tX2_heightOf_0, decode cX2_heightOf q.1 = .ok q.2 := by decide +kernel
def tX2_isOpen_0 : List (Nat × Instr × Nat) := [(0, .iload_n 0, 1), (1, .tableswitch 63 3 5 #[27, 37, 52], 27), (28, .iload_n 2, 1), (29, .ifCond .ne 7, 3), (32, .iconst 1, 1), (33, .goto 4, 3), (36, .iconst 0, 1), (37, .ireturn, 1), (38, .iload_n 1, 1), (39, .iconst 4, 1), (40, .if_icmp .le 7, 3), (43, .iload_n 2, 1), (44, .ifCond .ne 7, 3), (47, .iconst 1, 1), (48, .goto 4, 3), (51, .iconst 0, 1), (52, .ireturn, 1), (53, .iload_n 2, 1), (54, .iconst 1, 1), (55, .if_icmp .ne 7, 3), (58, .iconst 1, 1), (59, .goto 4, 3), (62, .iconst 0, 1), (63, .ireturn, 1), (64, .iconst 1, 1), (65, .ireturn, 1)]
theorem dX2_isOpen_0 : ∀ q ∈ tX2_isOpen_0, decode cX2_isOpen q.1 = .ok q.2 := by decide +kernel
def tX2_chanceOf_0 : List (Nat × Instr × Nat) := [(0, .iload_n 0, 1), (1, .tableswitch 60 2 7 #[39, 42, 44, 50, 52, 55], 39), (40, .bipush 9, 2), (42, .ireturn, 1), (43, .iconst 5, 1), (44, .ireturn, 1), (45, .iconst 5, 1), (46, .iload_n 1, 1), (47, .iconst 3, 1), (48, .idiv, 1), (49, .iadd, 1), (50, .ireturn, 1), (51, .iconst 0, 1), (52, .ireturn, 1), (53, .bipush 8, 2), (55, .ireturn, 1), (56, .bipush 10, 2), (58, .iload_n 1, 1), (59, .isub, 1), (60, .ireturn, 1), (61, .bipush 10, 2), (63, .ireturn, 1)]
theorem dX2_chanceOf_0 : ∀ q ∈ tX2_chanceOf_0, decode cX2_chanceOf q.1 = .ok q.2 := by decide +kernel
def tX2_costOf_0 : List (Nat × Instr × Nat) := [(0, .iload_n 0, 1), (1, .tableswitch 71 1 7 #[43, 45, 47, 50, 59, 62, 67], 43), (44, .iconst 1, 1), (45, .ireturn, 1), (46, .iconst 4, 1), (47, .ireturn, 1), (48, .bipush 8, 2), (50, .ireturn, 1), (51, .iconst 1, 1), (52, .bipush 8, 2), (54, .iload_n 1, 1), (55, .isub, 1), (56, .invokestatic 9, 3), (59, .ireturn, 1), (60, .bipush 9, 2), (62, .ireturn, 1), (63, .bipush 9, 2), (65, .iload_n 1, 1), (66, .iadd, 1), (67, .ireturn, 1), (68, .iconst 3, 1), (69, .iload_n 1, 1), (70, .iadd, 1), (71, .ireturn, 1), (72, .iconst 3, 1), (73, .ireturn, 1)]
theorem dX2_costOf_0 : ∀ q ∈ tX2_costOf_0, decode cX2_costOf q.1 = .ok q.2 := by decide +kernel
def tX2_fail_0 : List (Nat × Instr × Nat) := [(0, .iload_n 0, 1), (1, .iconst 1, 1), (2, .if_icmp .eq 7, 3), (5, .iload_n 1, 1), (6, .ifCond .ne 4, 3), (9, .return_, 1), (10, .iload_n 0, 1), (11, .tableswitch 55 2 4 #[35, 45, 25], 25), (36, .new 15, 3), (39, .dup, 1), (40, .ldc 17, 2), (42, .invokespecial 19, 3), (45, .athrow, 1), (46, .new 22, 3), (49, .dup, 1), (50, .ldc 24, 2), (52, .invokespecial 26, 3), (55, .athrow, 1), (56, .new 22, 3), (59, .dup, 1), (60, .ldc 27, 2), (62, .invokespecial 26, 3), (65, .athrow, 1), (66, .new 29, 3), (69, .dup, 1), (70, .ldc 31, 2), (72, .invokespecial 33, 3), (75, .athrow, 1)]
theorem dX2_fail_0 : ∀ q ∈ tX2_fail_0, decode cX2_fail q.1 = .ok q.2 := by decide +kernel
def tX3_init_0 : List (Nat × Instr × Nat) := [(0, .aload_n 0, 1), (1, .invokespecial 3, 3), (4, .aload_n 0, 1), (5, .bipush 36, 2), (7, .newarray .int, 2), (9, .putfield 9, 3), (12, .aload_n 0, 1), (13, .bipush 36, 2), (15, .newarray .int, 2), (17, .putfield 15, 3), (20, .aload_n 0, 1), (21, .iconst 0, 1), (22, .putfield 18, 3), (25, .aload_n 0, 1), (26, .iconst 3, 1), (27, .putfield 22, 3), (30, .aload_n 0, 1), (31, .bipush 6, 2), (33, .putfield 25, 3), (36, .aload_n 0, 1), (37, .bipush (-4), 2), (39, .putfield 28, 3), (42, .aload_n 0, 1), (43, .bipush (-4), 2), (45, .putfield 31, 3), (48, .aload_n 0, 1), (49, .iconst 0, 1), (50, .putfield 34, 3), (53, .aload_n 0, 1), (54, .iconst 0, 1), (55, .putfield 37, 3), (58, .aload_n 0, 1)]
theorem dX3_init_0 : ∀ q ∈ tX3_init_0, decode cX3_init q.1 = .ok q.2 := by decide +kernel
def tX3_init_1 : List (Nat × Instr × Nat) := [(59, .iconst 0, 1), (60, .putfield 40, 3), (63, .return_, 1)]
theorem dX3_init_1 : ∀ q ∈ tX3_init_1, decode cX3_init q.1 = .ok q.2 := by decide +kernel
def tX3_becomes_0 : List (Nat × Instr × Nat) := [(0, .iconst 0, 1), (1, .istore_n 2, 1), (2, .iload_n 2, 1), (3, .bipush 36, 2), (5, .if_icmp .ge 33, 3), (8, .aload_n 0, 1), (9, .getfield 9, 3), (12, .iload_n 2, 1), (13, .aload_n 1, 1), (14, .getfield 9, 3), (17, .iload_n 2, 1), (18, .iaload, 1), (19, .iastore, 1), (20, .aload_n 0, 1), (21, .getfield 15, 3), (24, .iload_n 2, 1), (25, .aload_n 1, 1), (26, .getfield 15, 3), (29, .iload_n 2, 1), (30, .iaload, 1), (31, .iastore, 1), (32, .iinc 2 1, 3), (35, .goto (-33), 3), (38, .aload_n 0, 1), (39, .aload_n 1, 1), (40, .getfield 18, 3), (43, .putfield 18, 3), (46, .aload_n 0, 1), (47, .aload_n 1, 1), (48, .getfield 22, 3), (51, .putfield 22, 3), (54, .aload_n 0, 1)]
theorem dX3_becomes_0 : ∀ q ∈ tX3_becomes_0, decode cX3_becomes q.1 = .ok q.2 := by decide +kernel
def tX3_becomes_1 : List (Nat × Instr × Nat) := [(55, .aload_n 1, 1), (56, .getfield 25, 3), (59, .putfield 25, 3), (62, .aload_n 0, 1), (63, .aload_n 1, 1), (64, .getfield 28, 3), (67, .putfield 28, 3), (70, .aload_n 0, 1), (71, .aload_n 1, 1), (72, .getfield 31, 3), (75, .putfield 31, 3), (78, .aload_n 0, 1), (79, .aload_n 1, 1), (80, .getfield 34, 3), (83, .putfield 34, 3), (86, .aload_n 0, 1), (87, .aload_n 1, 1), (88, .getfield 37, 3), (91, .putfield 37, 3), (94, .aload_n 0, 1), (95, .aload_n 1, 1), (96, .getfield 40, 3), (99, .putfield 40, 3), (102, .return_, 1)]
theorem dX3_becomes_1 : ∀ q ∈ tX3_becomes_1, decode cX3_becomes q.1 = .ok q.2 := by decide +kernel
def tX3_kindAt_0 : List (Nat × Instr × Nat) := [(0, .iload_n 1, 1), (1, .i2l, 1), (2, .invokestatic 43, 3), (5, .ifCond .eq 12, 3), (8, .aload_n 0, 1), (9, .getfield 9, 3), (12, .iload_n 1, 1), (13, .iaload, 1), (14, .goto 4, 3), (17, .iconst 0, 1), (18, .ireturn, 1)]
theorem dX3_kindAt_0 : ∀ q ∈ tX3_kindAt_0, decode cX3_kindAt q.1 = .ok q.2 := by decide +kernel
def tX3_figureAt_0 : List (Nat × Instr × Nat) := [(0, .iload_n 1, 1), (1, .i2l, 1), (2, .invokestatic 43, 3), (5, .ifCond .eq 12, 3), (8, .aload_n 0, 1), (9, .getfield 15, 3), (12, .iload_n 1, 1), (13, .iaload, 1), (14, .goto 4, 3), (17, .iconst 0, 1), (18, .ireturn, 1)]
theorem dX3_figureAt_0 : ∀ q ∈ tX3_figureAt_0, decode cX3_figureAt q.1 = .ok q.2 := by decide +kernel
def tX3_heightAt_0 : List (Nat × Instr × Nat) := [(0, .iload_n 1, 1), (1, .i2l, 1), (2, .invokestatic 43, 3), (5, .ifCond .eq 21, 3), (8, .aload_n 0, 1), (9, .getfield 9, 3), (12, .iload_n 1, 1), (13, .iaload, 1), (14, .aload_n 0, 1), (15, .getfield 15, 3), (18, .iload_n 1, 1), (19, .iaload, 1), (20, .invokestatic 49, 3), (23, .goto 4, 3), (26, .iconst 0, 1), (27, .ireturn, 1)]
theorem dX3_heightAt_0 : ∀ q ∈ tX3_heightAt_0, decode cX3_heightAt q.1 = .ok q.2 := by decide +kernel
def tX3_isOpen_0 : List (Nat × Instr × Nat) := [(0, .iload_n 1, 1), (1, .i2l, 1), (2, .invokestatic 43, 3), (5, .ifCond .eq 29, 3), (8, .aload_n 0, 1), (9, .getfield 9, 3), (12, .iload_n 1, 1), (13, .iaload, 1), (14, .aload_n 0, 1), (15, .getfield 15, 3), (18, .iload_n 1, 1), (19, .iaload, 1), (20, .aload_n 0, 1), (21, .getfield 18, 3), (24, .invokestatic 53, 3), (27, .ifCond .eq 7, 3), (30, .iconst 1, 1), (31, .goto 4, 3), (34, .iconst 0, 1), (35, .ireturn, 1)]
theorem dX3_isOpen_0 : ∀ q ∈ tX3_isOpen_0, decode cX3_isOpen q.1 = .ok q.2 := by decide +kernel
def tX3_chanceAt_0 : List (Nat × Instr × Nat) := [(0, .iload_n 1, 1), (1, .i2l, 1), (2, .invokestatic 43, 3), (5, .ifCond .eq 21, 3), (8, .aload_n 0, 1), (9, .getfield 9, 3), (12, .iload_n 1, 1), (13, .iaload, 1), (14, .aload_n 0, 1), (15, .getfield 15, 3), (18, .iload_n 1, 1), (19, .iaload, 1), (20, .invokestatic 57, 3), (23, .goto 4, 3), (26, .iconst 0, 1), (27, .ireturn, 1)]
theorem dX3_chanceAt_0 : ∀ q ∈ tX3_chanceAt_0, decode cX3_chanceAt q.1 = .ok q.2 := by decide +kernel
def tX3_openCells_0 : List (Nat × Instr × Nat) := [(0, .lconst 0, 1), (1, .lstore_n 1, 1), (2, .iconst 0, 1), (3, .istore_n 3, 1), (4, .iload_n 3, 1), (5, .bipush 36, 2), (7, .if_icmp .ge 24, 3), (10, .aload_n 0, 1), (11, .iload_n 3, 1), (12, .invokevirtual 60, 3), (15, .ifCond .eq 10, 3), (18, .lload_n 1, 1), (19, .iload_n 3, 1), (20, .invokestatic 63, 3), (23, .lor, 1), (24, .lstore_n 1, 1), (25, .iinc 3 1, 3), (28, .goto (-24), 3), (31, .lload_n 1, 1), (32, .lreturn, 1)]
theorem dX3_openCells_0 : ∀ q ∈ tX3_openCells_0, decode cX3_openCells q.1 = .ok q.2 := by decide +kernel
def tX3_sureCells_0 : List (Nat × Instr × Nat) := [(0, .lconst 0, 1), (1, .lstore_n 1, 1), (2, .iconst 0, 1), (3, .istore_n 3, 1), (4, .iload_n 3, 1), (5, .bipush 36, 2), (7, .if_icmp .ge 26, 3), (10, .aload_n 0, 1), (11, .iload_n 3, 1), (12, .invokevirtual 69, 3), (15, .bipush 10, 2), (17, .if_icmp .ne 10, 3), (20, .lload_n 1, 1), (21, .iload_n 3, 1), (22, .invokestatic 63, 3), (25, .lor, 1), (26, .lstore_n 1, 1), (27, .iinc 3 1, 3), (30, .goto (-26), 3), (33, .lload_n 1, 1), (34, .lreturn, 1)]
theorem dX3_sureCells_0 : ∀ q ∈ tX3_sureCells_0, decode cX3_sureCells q.1 = .ok q.2 := by decide +kernel
def tX3_unsureCells_0 : List (Nat × Instr × Nat) := [(0, .lconst 0, 1), (1, .lstore_n 1, 1), (2, .iconst 0, 1), (3, .istore_n 3, 1), (4, .iload_n 3, 1), (5, .bipush 36, 2), (7, .if_icmp .ge 34, 3), (10, .aload_n 0, 1), (11, .iload_n 3, 1), (12, .invokevirtual 69, 3), (15, .ifCond .le 20, 3), (18, .aload_n 0, 1), (19, .iload_n 3, 1), (20, .invokevirtual 69, 3), (23, .bipush 10, 2), (25, .if_icmp .ge 10, 3), (28, .lload_n 1, 1), (29, .iload_n 3, 1), (30, .invokestatic 63, 3), (33, .lor, 1), (34, .lstore_n 1, 1), (35, .iinc 3 1, 3), (38, .goto (-34), 3), (41, .lload_n 1, 1), (42, .lreturn, 1)]
theorem dX3_unsureCells_0 : ∀ q ∈ tX3_unsureCells_0, decode cX3_unsureCells q.1 = .ok q.2 := by decide +kernel
def tX3_bothStand_0 : List (Nat × Instr × Nat) := [(0, .aload_n 0, 1), (1, .getfield 28, 3), (4, .bipush (-4), 2), (6, .if_icmp .eq 16, 3), (9, .aload_n 0, 1), (10, .getfield 31, 3), (13, .bipush (-4), 2), (15, .if_icmp .eq 7, 3), (18, .iconst 1, 1), (19, .goto 4, 3), (22, .iconst 0, 1), (23, .ireturn, 1)]
theorem dX3_bothStand_0 : ∀ q ∈ tX3_bothStand_0, decode cX3_bothStand q.1 = .ok q.2 := by decide +kernel
def tX3_farBetween_0 : List (Nat × Instr × Nat) := [(0, .iload_n 1, 1), (1, .iload_n 2, 1), (2, .invokestatic 73, 3), (5, .aload_n 0, 1), (6, .iload_n 1, 1), (7, .invokevirtual 76, 3), (10, .aload_n 0, 1), (11, .iload_n 2, 1), (12, .invokevirtual 76, 3), (15, .isub, 1), (16, .invokestatic 79, 3), (19, .iconst 2, 1), (20, .idiv, 1), (21, .iadd, 1), (22, .ireturn, 1)]
theorem dX3_farBetween_0 : ∀ q ∈ tX3_farBetween_0, decode cX3_farBetween q.1 = .ok q.2 := by decide +kernel
def tX3_layAt_0 : List (Nat × Instr × Nat) := [(0, .iload_n 1, 1), (1, .i2l, 1), (2, .invokestatic 43, 3), (5, .ifCond .eq 17, 3), (8, .aload_n 0, 1), (9, .getfield 9, 3), (12, .iload_n 1, 1), (13, .iload_n 2, 1), (14, .iastore, 1), (15, .aload_n 0, 1), (16, .getfield 15, 3), (19, .iload_n 1, 1), (20, .iload_n 3, 1), (21, .iastore, 1), (22, .return_, 1)]
theorem dX3_layAt_0 : ∀ q ∈ tX3_layAt_0, decode cX3_layAt q.1 = .ok q.2 := by decide +kernel
def tX3_place_0 : List (Nat × Instr × Nat) := [(0, .iload_n 1, 1), (1, .ifCond .ne 11, 3), (4, .aload_n 0, 1), (5, .iload_n 2, 1), (6, .putfield 28, 3), (9, .goto 8, 3), (12, .aload_n 0, 1), (13, .iload_n 2, 1), (14, .putfield 31, 3), (17, .return_, 1)]
theorem dX3_place_0 : ∀ q ∈ tX3_place_0, decode cX3_place q.1 = .ok q.2 := by decide +kernel
def tX3_cellBy_0 : List (Nat × Instr × Nat) := [(0, .iload_n 1, 1), (1, .iload_n 2, 1), (2, .invokestatic 84, 3), (5, .istore_n 3, 1), (6, .iload_n 2, 1), (7, .ifCond .eq 11, 3), (10, .aload_n 0, 1), (11, .iload_n 3, 1), (12, .invokevirtual 60, 3), (15, .ifCond .eq 7, 3), (18, .iload_n 3, 1), (19, .goto 5, 3), (22, .bipush (-4), 2), (24, .ireturn, 1)]
theorem dX3_cellBy_0 : ∀ q ∈ tX3_cellBy_0, decode cX3_cellBy q.1 = .ok q.2 := by decide +kernel
def tX3_cellByOrStay_0 : List (Nat × Instr × Nat) := [(0, .aload_n 0, 1), (1, .iload_n 1, 1), (2, .iload_n 2, 1), (3, .invokevirtual 87, 3), (6, .istore_n 3, 1), (7, .iload_n 3, 1), (8, .bipush (-4), 2), (10, .if_icmp .ne 7, 3), (13, .iload_n 1, 1), (14, .goto 4, 3), (17, .iload_n 3, 1), (18, .ireturn, 1)]
theorem dX3_cellByOrStay_0 : ∀ q ∈ tX3_cellByOrStay_0, decode cX3_cellByOrStay q.1 = .ok q.2 := by decide +kernel
def tX3_goDay_0 : List (Nat × Instr × Nat) := [(0, .aload_n 0, 1), (1, .aload_n 0, 1), (2, .getfield 28, 3), (5, .iload_n 1, 1), (6, .invokevirtual 87, 3), (9, .istore_n 3, 1), (10, .aload_n 0, 1), (11, .aload_n 0, 1), (12, .getfield 31, 3), (15, .iload_n 2, 1), (16, .invokevirtual 87, 3), (19, .istore 4, 2), (21, .iload_n 3, 1), (22, .bipush (-4), 2), (24, .if_icmp .eq 20, 3), (27, .iload 4, 2), (29, .bipush (-4), 2), (31, .if_icmp .eq 13, 3), (34, .aload_n 0, 1), (35, .getfield 34, 3), (38, .sipush 999, 3), (41, .if_icmp .lt 5, 3), (44, .iconst 0, 1), (45, .ireturn, 1), (46, .aload_n 0, 1), (47, .dup, 1), (48, .getfield 34, 3), (51, .iconst 1, 1), (52, .iadd, 1), (53, .putfield 34, 3), (56, .aload_n 0, 1), (57, .iload_n 3, 1)]
theorem dX3_goDay_0 : ∀ q ∈ tX3_goDay_0, decode cX3_goDay q.1 = .ok q.2 := by decide +kernel
def tX3_goDay_1 : List (Nat × Instr × Nat) := [(58, .iload 4, 2), (60, .invokevirtual 90, 3), (63, .iconst 1, 1), (64, .ireturn, 1)]
theorem dX3_goDay_1 : ∀ q ∈ tX3_goDay_1, decode cX3_goDay q.1 = .ok q.2 := by decide +kernel
def tX3_endDay_0 : List (Nat × Instr × Nat) := [(0, .aload_n 0, 1), (1, .iload_n 1, 1), (2, .putfield 28, 3), (5, .aload_n 0, 1), (6, .iload_n 2, 1), (7, .putfield 31, 3), (10, .aload_n 0, 1), (11, .aload_n 0, 1), (12, .getfield 28, 3), (15, .aload_n 0, 1), (16, .getfield 31, 3), (19, .invokevirtual 94, 3), (22, .istore_n 3, 1), (23, .iload_n 3, 1), (24, .aload_n 0, 1), (25, .getfield 22, 3), (28, .if_icmp .ge 13, 3), (31, .aload_n 0, 1), (32, .dup, 1), (33, .getfield 37, 3), (36, .iconst 1, 1), (37, .iadd, 1), (38, .putfield 37, 3), (41, .iload_n 3, 1), (42, .aload_n 0, 1), (43, .getfield 25, 3), (46, .if_icmp .le 13, 3), (49, .aload_n 0, 1), (50, .dup, 1), (51, .getfield 40, 3), (54, .iconst 1, 1), (55, .iadd, 1)]
theorem dX3_endDay_0 : ∀ q ∈ tX3_endDay_0, decode cX3_endDay q.1 = .ok q.2 := by decide +kernel
def tX3_endDay_1 : List (Nat × Instr × Nat) := [(56, .putfield 40, 3), (59, .return_, 1)]
theorem dX3_endDay_1 : ∀ q ∈ tX3_endDay_1, decode cX3_endDay q.1 = .ok q.2 := by decide +kernel
def tX4_init_0 : List (Nat × Instr × Nat) := [(0, .aload_n 0, 1), (1, .invokespecial 3, 3), (4, .aload_n 0, 1), (5, .bipush 25, 2), (7, .newarray .int, 2), (9, .putfield 9, 3), (12, .return_, 1)]
theorem dX4_init_0 : ∀ q ∈ tX4_init_0, decode cX4_init q.1 = .ok q.2 := by decide +kernel
def tX4_lay_0 : List (Nat × Instr × Nat) := [(0, .iconst 0, 1), (1, .istore_n 2, 1), (2, .iload_n 2, 1), (3, .iconst 5, 1), (4, .if_icmp .ge 93, 3), (7, .iconst 0, 1), (8, .istore_n 3, 1), (9, .iload_n 3, 1), (10, .iconst 5, 1), (11, .if_icmp .ge 80, 3), (14, .aload_n 1, 1), (15, .aload_n 1, 1), (16, .getfield 15, 3), (19, .iload_n 2, 1), (20, .invokevirtual 21, 3), (23, .istore 4, 2), (25, .aload_n 1, 1), (26, .aload_n 1, 1), (27, .getfield 25, 3), (30, .iload_n 3, 1), (31, .invokevirtual 21, 3), (34, .istore 5, 2), (36, .iload 4, 2), (38, .bipush (-4), 2), (40, .if_icmp .eq 14, 3), (43, .iload 5, 2), (45, .bipush (-4), 2), (47, .if_icmp .eq 7, 3), (50, .iconst 1, 1), (51, .goto 4, 3), (54, .iconst 0, 1), (55, .istore 6, 2)]
theorem dX4_lay_0 : ∀ q ∈ tX4_lay_0, decode cX4_lay q.1 = .ok q.2 := by decide +kernel
def tX4_lay_1 : List (Nat × Instr × Nat) := [(57, .aload_n 0, 1), (58, .getfield 9, 3), (61, .iload_n 2, 1), (62, .iconst 5, 1), (63, .imul, 1), (64, .iload_n 3, 1), (65, .iadd, 1), (66, .iload 6, 2), (68, .ifCond .eq 14, 3), (71, .aload_n 1, 1), (72, .iload 4, 2), (74, .iload 5, 2), (76, .invokevirtual 28, 3), (79, .goto 5, 3), (82, .bipush (-4), 2), (84, .iastore, 1), (85, .iinc 3 1, 3), (88, .goto (-79), 3), (91, .iinc 2 1, 3), (94, .goto (-92), 3), (97, .return_, 1)]
theorem dX4_lay_1 : ∀ q ∈ tX4_lay_1, decode cX4_lay q.1 = .ok q.2 := by decide +kernel
def tX4_farOf_0 : List (Nat × Instr × Nat) := [(0, .iload_n 1, 1), (1, .invokestatic 31, 3), (4, .ifCond .eq 23, 3), (7, .iload_n 2, 1), (8, .invokestatic 31, 3), (11, .ifCond .eq 16, 3), (14, .aload_n 0, 1), (15, .getfield 9, 3), (18, .iload_n 1, 1), (19, .iconst 5, 1), (20, .imul, 1), (21, .iload_n 2, 1), (22, .iadd, 1), (23, .iaload, 1), (24, .goto 5, 3), (27, .bipush (-4), 2), (29, .ireturn, 1)]
theorem dX4_farOf_0 : ∀ q ∈ tX4_farOf_0, decode cX4_farOf q.1 = .ok q.2 := by decide +kernel
def tX4_firstHeld_0 : List (Nat × Instr × Nat) := [(0, .iconst 0, 1), (1, .istore_n 1, 1), (2, .iload_n 1, 1), (3, .iconst 5, 1), (4, .if_icmp .ge 49, 3), (7, .iconst 0, 1), (8, .istore_n 2, 1), (9, .iload_n 2, 1), (10, .iconst 5, 1), (11, .if_icmp .ge 36, 3), (14, .aload_n 0, 1), (15, .iload_n 1, 1), (16, .iload_n 2, 1), (17, .invokevirtual 35, 3), (20, .bipush (-4), 2), (22, .if_icmp .eq 19, 3), (25, .aload_n 0, 1), (26, .iload_n 1, 1), (27, .iload_n 2, 1), (28, .invokevirtual 38, 3), (31, .ifCond .eq 10, 3), (34, .bipush 10, 2), (36, .iload_n 1, 1), (37, .imul, 1), (38, .iload_n 2, 1), (39, .iadd, 1), (40, .ireturn, 1), (41, .iinc 2 1, 3), (44, .goto (-35), 3), (47, .iinc 1 1, 3), (50, .goto (-48), 3), (53, .bipush (-4), 2)]
theorem dX4_firstHeld_0 : ∀ q ∈ tX4_firstHeld_0, decode cX4_firstHeld q.1 = .ok q.2 := by decide +kernel
def tX4_firstHeld_1 : List (Nat × Instr × Nat) := [(55, .ireturn, 1)]
theorem dX4_firstHeld_1 : ∀ q ∈ tX4_firstHeld_1, decode cX4_firstHeld q.1 = .ok q.2 := by decide +kernel
def tX4_isHeld_0 : List (Nat × Instr × Nat) := [(0, .aload_n 0, 1), (1, .iload_n 1, 1), (2, .iload_n 2, 1), (3, .invokevirtual 35, 3), (6, .istore_n 3, 1), (7, .iconst 0, 1), (8, .istore 4, 2), (10, .iload 4, 2), (12, .iconst 5, 1), (13, .if_icmp .ge 55, 3), (16, .aload_n 0, 1), (17, .iload 4, 2), (19, .iload_n 2, 1), (20, .invokevirtual 35, 3), (23, .istore 5, 2), (25, .aload_n 0, 1), (26, .iload_n 1, 1), (27, .iload 4, 2), (29, .invokevirtual 35, 3), (32, .istore 6, 2), (34, .iload 5, 2), (36, .bipush (-4), 2), (38, .if_icmp .eq 9, 3), (41, .iload 5, 2), (43, .iload_n 3, 1), (44, .if_icmp .lt 16, 3), (47, .iload 6, 2), (49, .bipush (-4), 2), (51, .if_icmp .eq 11, 3), (54, .iload 6, 2), (56, .iload_n 3, 1), (57, .if_icmp .le 5, 3)]
theorem dX4_isHeld_0 : ∀ q ∈ tX4_isHeld_0, decode cX4_isHeld q.1 = .ok q.2 := by decide +kernel
def tX4_isHeld_1 : List (Nat × Instr × Nat) := [(60, .iconst 0, 1), (61, .ireturn, 1), (62, .iinc 4 1, 3), (65, .goto (-55), 3), (68, .iconst 1, 1), (69, .ireturn, 1)]
theorem dX4_isHeld_1 : ∀ q ∈ tX4_isHeld_1, decode cX4_isHeld q.1 = .ok q.2 := by decide +kernel
def tX4_leastSure_0 : List (Nat × Instr × Nat) := [(0, .bipush (-4), 2), (2, .istore_n 1, 1), (3, .iconst 0, 1), (4, .istore_n 2, 1), (5, .iload_n 2, 1), (6, .iconst 5, 1), (7, .if_icmp .ge 34, 3), (10, .aload_n 0, 1), (11, .iload_n 2, 1), (12, .invokevirtual 42, 3), (15, .istore_n 3, 1), (16, .iload_n 3, 1), (17, .bipush (-4), 2), (19, .if_icmp .eq 16, 3), (22, .iload_n 1, 1), (23, .bipush (-4), 2), (25, .if_icmp .eq 8, 3), (28, .iload_n 3, 1), (29, .iload_n 1, 1), (30, .if_icmp .ge 5, 3), (33, .iload_n 3, 1), (34, .istore_n 1, 1), (35, .iinc 2 1, 3), (38, .goto (-33), 3), (41, .iload_n 1, 1), (42, .ireturn, 1)]
theorem dX4_leastSure_0 : ∀ q ∈ tX4_leastSure_0, decode cX4_leastSure q.1 = .ok q.2 := by decide +kernel
def tX4_worstOf_0 : List (Nat × Instr × Nat) := [(0, .bipush (-4), 2), (2, .istore_n 2, 1), (3, .iconst 0, 1), (4, .istore_n 3, 1), (5, .iload_n 3, 1), (6, .iconst 5, 1), (7, .if_icmp .ge 20, 3), (10, .iload_n 2, 1), (11, .aload_n 0, 1), (12, .iload_n 1, 1), (13, .iload_n 3, 1), (14, .invokevirtual 35, 3), (17, .invokestatic 46, 3), (20, .istore_n 2, 1), (21, .iinc 3 1, 3), (24, .goto (-19), 3), (27, .iload_n 2, 1), (28, .ireturn, 1)]
theorem dX4_worstOf_0 : ∀ q ∈ tX4_worstOf_0, decode cX4_worstOf q.1 = .ok q.2 := by decide +kernel
def tX5_init_0 : List (Nat × Instr × Nat) := [(0, .aload_n 0, 1), (1, .invokespecial 3, 3), (4, .aload_n 0, 1), (5, .iconst 0, 1), (6, .putfield 11, 3), (9, .aload_n 0, 1), (10, .iconst 0, 1), (11, .putfield 15, 3), (14, .aload_n 0, 1), (15, .iconst 0, 1), (16, .putfield 18, 3), (19, .aload_n 0, 1), (20, .iconst 0, 1), (21, .putfield 21, 3), (24, .aload_n 0, 1), (25, .iconst 0, 1), (26, .putfield 24, 3), (29, .aload_n 0, 1), (30, .bipush 100, 2), (32, .newarray .long, 2), (34, .putfield 27, 3), (37, .return_, 1)]
theorem dX5_init_0 : ∀ q ∈ tX5_init_0, decode cX5_init q.1 = .ok q.2 := by decide +kernel
def tX5_takeGround_0 : List (Nat × Instr × Nat) := [(0, .aload_n 0, 1), (1, .iconst 1, 1), (2, .putfield 11, 3), (5, .aload_n 0, 1), (6, .iload_n 1, 1), (7, .putfield 15, 3), (10, .aload_n 0, 1), (11, .iload_n 2, 1), (12, .putfield 18, 3), (15, .return_, 1)]
theorem dX5_takeGround_0 : ∀ q ∈ tX5_takeGround_0, decode cX5_takeGround q.1 = .ok q.2 := by decide +kernel
def tX5_takeRow_0 : List (Nat × Instr × Nat) := [(0, .aload_n 0, 1), (1, .iconst 2, 1), (2, .putfield 11, 3), (5, .aload_n 0, 1), (6, .iload_n 1, 1), (7, .putfield 21, 3), (10, .aload_n 0, 1), (11, .iload_n 2, 1), (12, .putfield 24, 3), (15, .aload_n 0, 1), (16, .getfield 27, 3), (19, .lconst 0, 1), (20, .invokestatic 31, 3), (23, .return_, 1)]
theorem dX5_takeRow_0 : ∀ q ∈ tX5_takeRow_0, decode cX5_takeRow q.1 = .ok q.2 := by decide +kernel
def tX5_hasPlace_0 : List (Nat × Instr × Nat) := [(0, .iload_n 1, 1), (1, .ifCond .lt 15, 3), (4, .iload_n 1, 1), (5, .aload_n 0, 1), (6, .getfield 24, 3), (9, .if_icmp .ge 7, 3), (12, .iconst 1, 1), (13, .goto 4, 3), (16, .iconst 0, 1), (17, .ireturn, 1)]
theorem dX5_hasPlace_0 : ∀ q ∈ tX5_hasPlace_0, decode cX5_hasPlace q.1 = .ok q.2 := by decide +kernel
def tX5_hasPlaces_0 : List (Nat × Instr × Nat) := [(0, .iload_n 1, 1), (1, .ifCond .lt 29, 3), (4, .iload_n 2, 1), (5, .ifCond .lt 25, 3), (8, .iload_n 1, 1), (9, .aload_n 0, 1), (10, .getfield 24, 3), (13, .if_icmp .gt 17, 3), (16, .iload_n 2, 1), (17, .aload_n 0, 1), (18, .getfield 24, 3), (21, .iload_n 1, 1), (22, .isub, 1), (23, .if_icmp .gt 7, 3), (26, .iconst 1, 1), (27, .goto 4, 3), (30, .iconst 0, 1), (31, .ireturn, 1)]
theorem dX5_hasPlaces_0 : ∀ q ∈ tX5_hasPlaces_0, decode cX5_hasPlaces q.1 = .ok q.2 := by decide +kernel
def tX5_numberAt_0 : List (Nat × Instr × Nat) := [(0, .iload_n 1, 1), (1, .ifCond .lt 29, 3), (4, .iload_n 1, 1), (5, .aload_n 0, 1), (6, .getfield 24, 3), (9, .if_icmp .ge 21, 3), (12, .iload_n 1, 1), (13, .aload_n 0, 1), (14, .getfield 27, 3), (17, .arraylength, 1), (18, .if_icmp .ge 12, 3), (21, .aload_n 0, 1), (22, .getfield 27, 3), (25, .iload_n 1, 1), (26, .laload, 1), (27, .goto 4, 3), (30, .lconst 0, 1), (31, .lreturn, 1)]
theorem dX5_numberAt_0 : ∀ q ∈ tX5_numberAt_0, decode cX5_numberAt q.1 = .ok q.2 := by decide +kernel
def tX5_write_0 : List (Nat × Instr × Nat) := [(0, .iload_n 1, 1), (1, .ifCond .lt 41, 3), (4, .iload_n 1, 1), (5, .aload_n 0, 1), (6, .getfield 24, 3), (9, .if_icmp .ge 33, 3), (12, .iload_n 1, 1), (13, .aload_n 0, 1), (14, .getfield 27, 3), (17, .arraylength, 1), (18, .if_icmp .ge 24, 3), (21, .aload_n 0, 1), (22, .getfield 27, 3), (25, .iload_n 1, 1), (26, .aload_n 0, 1), (27, .getfield 21, 3), (30, .ifCond .ne 9, 3), (33, .iload_n 2, 1), (34, .i2b, 1), (35, .i2l, 1), (36, .goto 5, 3), (39, .iload_n 2, 1), (40, .i2l, 1), (41, .lastore, 1), (42, .return_, 1)]
theorem dX5_write_0 : ∀ q ∈ tX5_write_0, decode cX5_write q.1 = .ok q.2 := by decide +kernel
def tX5_leastNumber_0 : List (Nat × Instr × Nat) := [(0, .aload_n 0, 1), (1, .getfield 21, 3), (4, .lookupswitch 36 #[(0, 28), (1, 32)], 28), (32, .ldc2_w 37, 3), (35, .lreturn, 1), (36, .ldc2_w 39, 3), (39, .lreturn, 1), (40, .ldc2_w 41, 3), (43, .lreturn, 1)]
theorem dX5_leastNumber_0 : ∀ q ∈ tX5_leastNumber_0, decode cX5_leastNumber q.1 = .ok q.2 := by decide +kernel
def tX6_likely_0 : List (Nat × Instr × Nat) := [(0, .aload_n 0, 1), (1, .invokevirtual 9, 3), (4, .lstore_n 3, 1), (5, .aload_n 0, 1), (6, .invokevirtual 15, 3), (9, .lstore 5, 2), (11, .iconst 1, 1), (12, .lload 5, 2), (14, .invokestatic 18, 3), (17, .bipush 8, 2), (19, .invokestatic 26, 3), (22, .ishl, 1), (23, .istore 7, 2), (25, .lconst 0, 1), (26, .lstore 8, 2), (28, .iconst 0, 1), (29, .istore 10, 2), (31, .iload 10, 2), (33, .iload 7, 2), (35, .if_icmp .ge 45, 3), (38, .lload_n 3, 1), (39, .lload 5, 2), (41, .iload 10, 2), (43, .invokestatic 32, 3), (46, .lor, 1), (47, .lstore 11, 2), (49, .iload_n 1, 1), (50, .iload_n 2, 1), (51, .lload 11, 2), (53, .invokestatic 36, 3), (56, .bipush (-4), 2), (58, .if_icmp .eq 16, 3)]
theorem dX6_likely_0 : ∀ q ∈ tX6_likely_0, decode cX6_likely q.1 = .ok q.2 := by decide +kernel
def tX6_likely_1 : List (Nat × Instr × Nat) := [(61, .lload 8, 2), (63, .aload_n 0, 1), (64, .lload 5, 2), (66, .lload 11, 2), (68, .invokestatic 42, 3), (71, .ladd, 1), (72, .lstore 8, 2), (74, .iinc 10 1, 3), (77, .goto (-46), 3), (80, .lload 8, 2), (82, .lreturn, 1)]
theorem dX6_likely_1 : ∀ q ∈ tX6_likely_1, decode cX6_likely q.1 = .ok q.2 := by decide +kernel
def tX6_passableOf_0 : List (Nat × Instr × Nat) := [(0, .lconst 0, 1), (1, .lstore_n 3, 1), (2, .iconst 0, 1), (3, .istore 5, 2), (5, .iconst 0, 1), (6, .istore 6, 2), (8, .iload 6, 2), (10, .bipush 36, 2), (12, .if_icmp .ge 39, 3), (15, .lload_n 0, 1), (16, .iload 6, 2), (18, .invokestatic 46, 3), (21, .ifCond .eq 24, 3), (24, .iload_n 2, 1), (25, .iload 5, 2), (27, .ishr, 1), (28, .iconst 1, 1), (29, .iand, 1), (30, .iconst 1, 1), (31, .if_icmp .ne 11, 3), (34, .lload_n 3, 1), (35, .iload 6, 2), (37, .invokestatic 50, 3), (40, .lor, 1), (41, .lstore_n 3, 1), (42, .iinc 5 1, 3), (45, .iinc 6 1, 3), (48, .goto (-40), 3), (51, .lload_n 3, 1), (52, .lreturn, 1)]
theorem dX6_passableOf_0 : ∀ q ∈ tX6_passableOf_0, decode cX6_passableOf q.1 = .ok q.2 := by decide +kernel
def tX6_weightOf_0 : List (Nat × Instr × Nat) := [(0, .lconst 1, 1), (1, .lstore 5, 2), (3, .iconst 0, 1), (4, .istore 7, 2), (6, .iload 7, 2), (8, .bipush 36, 2), (10, .if_icmp .ge 52, 3), (13, .lload_n 1, 1), (14, .iload 7, 2), (16, .invokestatic 46, 3), (19, .ifCond .eq 37, 3), (22, .aload_n 0, 1), (23, .iload 7, 2), (25, .invokevirtual 54, 3), (28, .istore 8, 2), (30, .lload 5, 2), (32, .lload_n 3, 1), (33, .iload 7, 2), (35, .invokestatic 46, 3), (38, .ifCond .eq 9, 3), (41, .iload 8, 2), (43, .i2l, 1), (44, .goto 9, 3), (47, .bipush 10, 2), (49, .iload 8, 2), (51, .isub, 1), (52, .i2l, 1), (53, .lmul, 1), (54, .lstore 5, 2), (56, .iinc 7 1, 3), (59, .goto (-53), 3), (62, .lload 5, 2)]
theorem dX6_weightOf_0 : ∀ q ∈ tX6_weightOf_0, decode cX6_weightOf q.1 = .ok q.2 := by decide +kernel
def tX6_weightOf_1 : List (Nat × Instr × Nat) := [(64, .lreturn, 1)]
theorem dX6_weightOf_1 : ∀ q ∈ tX6_weightOf_1, decode cX6_weightOf q.1 = .ok q.2 := by decide +kernel
def tX7_bit_0 : List (Nat × Instr × Nat) := [(0, .iload_n 0, 1), (1, .ifCond .lt 15, 3), (4, .iload_n 0, 1), (5, .bipush 36, 2), (7, .if_icmp .ge 9, 3), (10, .lconst 1, 1), (11, .iload_n 0, 1), (12, .lshl, 1), (13, .goto 4, 3), (16, .lconst 0, 1), (17, .lreturn, 1)]
theorem dX7_bit_0 : ∀ q ∈ tX7_bit_0, decode cX7_bit q.1 = .ok q.2 := by decide +kernel
def tX7_has_0 : List (Nat × Instr × Nat) := [(0, .lload_n 0, 1), (1, .iload_n 2, 1), (2, .invokestatic 11, 3), (5, .land, 1), (6, .lconst 0, 1), (7, .lcmp, 1), (8, .ifCond .eq 7, 3), (11, .iconst 1, 1), (12, .goto 4, 3), (15, .iconst 0, 1), (16, .ireturn, 1)]
theorem dX7_has_0 : ∀ q ∈ tX7_has_0, decode cX7_has q.1 = .ok q.2 := by decide +kernel
def tX7_leastOf_0 : List (Nat × Instr × Nat) := [(0, .iconst 0, 1), (1, .istore_n 2, 1), (2, .iload_n 2, 1), (3, .bipush 36, 2), (5, .if_icmp .ge 19, 3), (8, .lload_n 0, 1), (9, .iload_n 2, 1), (10, .invokestatic 15, 3), (13, .ifCond .eq 5, 3), (16, .iload_n 2, 1), (17, .ireturn, 1), (18, .iinc 2 1, 3), (21, .goto (-19), 3), (24, .bipush (-4), 2), (26, .ireturn, 1)]
theorem dX7_leastOf_0 : ∀ q ∈ tX7_leastOf_0, decode cX7_leastOf q.1 = .ok q.2 := by decide +kernel
def tX7_apart_0 : List (Nat × Instr × Nat) := [(0, .iload_n 0, 1), (1, .bipush 6, 2), (3, .idiv, 1), (4, .iload_n 1, 1), (5, .bipush 6, 2), (7, .idiv, 1), (8, .isub, 1), (9, .invokestatic 19, 3), (12, .iload_n 0, 1), (13, .bipush 6, 2), (15, .irem, 1), (16, .iload_n 1, 1), (17, .bipush 6, 2), (19, .irem, 1), (20, .isub, 1), (21, .invokestatic 19, 3), (24, .iadd, 1), (25, .ireturn, 1)]
theorem dX7_apart_0 : ∀ q ∈ tX7_apart_0, decode cX7_apart q.1 = .ok q.2 := by decide +kernel
def tX7_cellTo_0 : List (Nat × Instr × Nat) := [(0, .iload_n 0, 1), (1, .i2l, 1), (2, .invokestatic 25, 3), (5, .ifCond .ne 6, 3), (8, .bipush (-4), 2), (10, .ireturn, 1), (11, .iload_n 1, 1), (12, .tableswitch 103 0 4 #[36, 38, 54, 70, 87], 36), (48, .iload_n 0, 1), (49, .ireturn, 1), (50, .iload_n 0, 1), (51, .bipush 6, 2), (53, .if_icmp .lt 10, 3), (56, .iload_n 0, 1), (57, .bipush 6, 2), (59, .isub, 1), (60, .goto 5, 3), (63, .bipush (-4), 2), (65, .ireturn, 1), (66, .iload_n 0, 1), (67, .bipush 6, 2), (69, .irem, 1), (70, .ifCond .le 9, 3), (73, .iload_n 0, 1), (74, .iconst 1, 1), (75, .isub, 1), (76, .goto 5, 3), (79, .bipush (-4), 2), (81, .ireturn, 1), (82, .iload_n 0, 1), (83, .bipush 6, 2), (85, .irem, 1)]
theorem dX7_cellTo_0 : ∀ q ∈ tX7_cellTo_0, decode cX7_cellTo q.1 = .ok q.2 := by decide +kernel
def tX7_cellTo_1 : List (Nat × Instr × Nat) := [(86, .iconst 5, 1), (87, .if_icmp .ge 9, 3), (90, .iload_n 0, 1), (91, .iconst 1, 1), (92, .iadd, 1), (93, .goto 5, 3), (96, .bipush (-4), 2), (98, .ireturn, 1), (99, .iload_n 0, 1), (100, .bipush 30, 2), (102, .if_icmp .ge 10, 3), (105, .iload_n 0, 1), (106, .bipush 6, 2), (108, .iadd, 1), (109, .goto 5, 3), (112, .bipush (-4), 2), (114, .ireturn, 1), (115, .bipush (-4), 2), (117, .ireturn, 1)]
theorem dX7_cellTo_1 : ∀ q ∈ tX7_cellTo_1, decode cX7_cellTo q.1 = .ok q.2 := by decide +kernel
def tX7_spread_0 : List (Nat × Instr × Nat) := [(0, .lload_n 0, 1), (1, .lload_n 0, 1), (2, .ldc2_w 29, 3), (5, .land, 1), (6, .iconst 1, 1), (7, .lshr, 1), (8, .lor, 1), (9, .lload_n 0, 1), (10, .ldc2_w 31, 3), (13, .land, 1), (14, .iconst 1, 1), (15, .lshl, 1), (16, .lor, 1), (17, .lstore_n 2, 1), (18, .lload_n 2, 1), (19, .lload_n 0, 1), (20, .bipush 6, 2), (22, .lshr, 1), (23, .lor, 1), (24, .lload_n 0, 1), (25, .bipush 6, 2), (27, .lshl, 1), (28, .lor, 1), (29, .ldc2_w 33, 3), (32, .land, 1), (33, .lreturn, 1)]
theorem dX7_spread_0 : ∀ q ∈ tX7_spread_0, decode cX7_spread q.1 = .ok q.2 := by decide +kernel
def tX7_cellsWithin_0 : List (Nat × Instr × Nat) := [(0, .iload_n 0, 1), (1, .invokestatic 11, 3), (4, .lload_n 2, 1), (5, .land, 1), (6, .lstore 4, 2), (8, .iconst 0, 1), (9, .istore 6, 2), (11, .iload 6, 2), (13, .iload_n 1, 1), (14, .if_icmp .ge 18, 3), (17, .lload 4, 2), (19, .invokestatic 35, 3), (22, .lload_n 2, 1), (23, .land, 1), (24, .lstore 4, 2), (26, .iinc 6 1, 3), (29, .goto (-18), 3), (32, .lload 4, 2), (34, .lreturn, 1)]
theorem dX7_cellsWithin_0 : ∀ q ∈ tX7_cellsWithin_0, decode cX7_cellsWithin q.1 = .ok q.2 := by decide +kernel
def tX7_islandOf_0 : List (Nat × Instr × Nat) := [(0, .iload_n 0, 1), (1, .bipush 36, 2), (3, .lload_n 1, 1), (4, .invokestatic 39, 3), (7, .lreturn, 1)]
theorem dX7_islandOf_0 : ∀ q ∈ tX7_islandOf_0, decode cX7_islandOf q.1 = .ok q.2 := by decide +kernel
def tX7_islandsOf_0 : List (Nat × Instr × Nat) := [(0, .lload_n 0, 1), (1, .lstore_n 2, 1), (2, .iconst 0, 1), (3, .istore 4, 2), (5, .iconst 0, 1), (6, .istore 5, 2), (8, .iload 5, 2), (10, .bipush 36, 2), (12, .if_icmp .ge 34, 3), (15, .lload_n 2, 1), (16, .iload 5, 2), (18, .invokestatic 15, 3), (21, .ifCond .eq 19, 3), (24, .lload_n 2, 1), (25, .iload 5, 2), (27, .lload_n 0, 1), (28, .invokestatic 43, 3), (31, .ldc2_w 47, 3), (34, .lxor, 1), (35, .land, 1), (36, .lstore_n 2, 1), (37, .iinc 4 1, 3), (40, .iinc 5 1, 3), (43, .goto (-35), 3), (46, .iload 4, 2), (48, .ireturn, 1)]
theorem dX7_islandsOf_0 : ∀ q ∈ tX7_islandsOf_0, decode cX7_islandsOf q.1 = .ok q.2 := by decide +kernel
def tX7_largestIsland_0 : List (Nat × Instr × Nat) := [(0, .lload_n 0, 1), (1, .lstore_n 2, 1), (2, .lconst 0, 1), (3, .lstore 4, 2), (5, .iconst 0, 1), (6, .istore 6, 2), (8, .iload 6, 2), (10, .bipush 36, 2), (12, .if_icmp .ge 52, 3), (15, .lload_n 2, 1), (16, .iload 6, 2), (18, .invokestatic 15, 3), (21, .ifCond .eq 37, 3), (24, .iload 6, 2), (26, .lload_n 0, 1), (27, .invokestatic 43, 3), (30, .lstore 7, 2), (32, .lload_n 2, 1), (33, .lload 7, 2), (35, .ldc2_w 47, 3), (38, .lxor, 1), (39, .land, 1), (40, .lstore_n 2, 1), (41, .lload 7, 2), (43, .invokestatic 49, 3), (46, .lload 4, 2), (48, .invokestatic 49, 3), (51, .if_icmp .le 7, 3), (54, .lload 7, 2), (56, .lstore 4, 2), (58, .iinc 6 1, 3), (61, .goto (-53), 3)]
theorem dX7_largestIsland_0 : ∀ q ∈ tX7_largestIsland_0, decode cX7_largestIsland q.1 = .ok q.2 := by decide +kernel
def tX7_largestIsland_1 : List (Nat × Instr × Nat) := [(64, .lload 4, 2), (66, .lreturn, 1)]
theorem dX7_largestIsland_1 : ∀ q ∈ tX7_largestIsland_1, decode cX7_largestIsland q.1 = .ok q.2 := by decide +kernel
def tX7_stepsBetween_0 : List (Nat × Instr × Nat) := [(0, .iload_n 0, 1), (1, .invokestatic 11, 3), (4, .lload_n 2, 1), (5, .land, 1), (6, .lstore 4, 2), (8, .iconst 0, 1), (9, .istore 6, 2), (11, .iload 6, 2), (13, .bipush 36, 2), (15, .if_icmp .ge 30, 3), (18, .lload 4, 2), (20, .iload_n 1, 1), (21, .invokestatic 15, 3), (24, .ifCond .eq 6, 3), (27, .iload 6, 2), (29, .ireturn, 1), (30, .lload 4, 2), (32, .invokestatic 35, 3), (35, .lload_n 2, 1), (36, .land, 1), (37, .lstore 4, 2), (39, .iinc 6 1, 3), (42, .goto (-31), 3), (45, .bipush (-4), 2), (47, .ireturn, 1)]
theorem dX7_stepsBetween_0 : ∀ q ∈ tX7_stepsBetween_0, decode cX7_stepsBetween q.1 = .ok q.2 := by decide +kernel
def tX7_greatestSteps_0 : List (Nat × Instr × Nat) := [(0, .iload_n 0, 1), (1, .invokestatic 11, 3), (4, .lload_n 1, 1), (5, .land, 1), (6, .lstore_n 3, 1), (7, .iconst 0, 1), (8, .istore 5, 2), (10, .iload 5, 2), (12, .bipush 36, 2), (14, .if_icmp .ge 30, 3), (17, .lload_n 3, 1), (18, .invokestatic 35, 3), (21, .lload_n 1, 1), (22, .land, 1), (23, .lstore 6, 2), (25, .lload 6, 2), (27, .lload_n 3, 1), (28, .lcmp, 1), (29, .ifCond .ne 6, 3), (32, .iload 5, 2), (34, .ireturn, 1), (35, .lload 6, 2), (37, .lstore_n 3, 1), (38, .iinc 5 1, 3), (41, .goto (-31), 3), (44, .bipush (-4), 2), (46, .ireturn, 1)]
theorem dX7_greatestSteps_0 : ∀ q ∈ tX7_greatestSteps_0, decode cX7_greatestSteps q.1 = .ok q.2 := by decide +kernel
def tX7_middleOf_0 : List (Nat × Instr × Nat) := [(0, .lload_n 0, 1), (1, .invokestatic 55, 3), (4, .lstore_n 2, 1), (5, .bipush (-4), 2), (7, .istore 4, 2), (9, .bipush 36, 2), (11, .istore 5, 2), (13, .iconst 0, 1), (14, .istore 6, 2), (16, .iload 6, 2), (18, .bipush 36, 2), (20, .if_icmp .ge 41, 3), (23, .lload_n 2, 1), (24, .iload 6, 2), (26, .invokestatic 15, 3), (29, .ifCond .eq 26, 3), (32, .iload 6, 2), (34, .lload_n 0, 1), (35, .invokestatic 58, 3), (38, .istore 7, 2), (40, .iload 7, 2), (42, .iload 5, 2), (44, .if_icmp .ge 11, 3), (47, .iload 7, 2), (49, .istore 5, 2), (51, .iload 6, 2), (53, .istore 4, 2), (55, .iinc 6 1, 3), (58, .goto (-42), 3), (61, .iload 4, 2), (63, .ireturn, 1)]
theorem dX7_middleOf_0 : ∀ q ∈ tX7_middleOf_0, decode cX7_middleOf q.1 = .ok q.2 := by decide +kernel
def tX8_digitsBehind_0 : List (Nat × Instr × Nat) := [(0, .lload_n 0, 1), (1, .l2i, 1), (2, .tableswitch 106 100 119 #[104, 106, 106, 94, 96, 106, 106, 106, 106, 106, 100, 106, 106, 106, 106, 98, 106, 106, 106, 102], 94), (96, .iconst 4, 1), (97, .ireturn, 1), (98, .iconst 2, 1), (99, .ireturn, 1), (100, .iconst 2, 1), (101, .ireturn, 1), (102, .iconst 4, 1), (103, .ireturn, 1), (104, .iconst 1, 1), (105, .ireturn, 1), (106, .iconst 2, 1), (107, .ireturn, 1), (108, .iconst (-1), 1), (109, .ireturn, 1)]
theorem dX8_digitsBehind_0 : ∀ q ∈ tX8_digitsBehind_0, decode cX8_digitsBehind q.1 = .ok q.2 := by decide +kernel
def tX8_firstWrongByte_0 : List (Nat × Instr × Nat) := [(0, .iconst (-1), 1), (1, .istore_n 1, 1), (2, .iconst 0, 1), (3, .istore_n 2, 1), (4, .iload_n 2, 1), (5, .aload_n 0, 1), (6, .getfield 11, 3), (9, .if_icmp .ge 72, 3), (12, .aload_n 0, 1), (13, .iload_n 2, 1), (14, .invokevirtual 17, 3), (17, .lstore_n 3, 1), (18, .iload_n 1, 1), (19, .iconst (-1), 1), (20, .if_icmp .ne 15, 3), (23, .lload_n 3, 1), (24, .invokestatic 21, 3), (27, .istore_n 1, 1), (28, .iload_n 1, 1), (29, .iconst (-1), 1), (30, .if_icmp .ne 45, 3), (33, .iload_n 2, 1), (34, .ireturn, 1), (35, .iload_n 1, 1), (36, .ifCond .ne 18, 3), (39, .lload_n 3, 1), (40, .ldc2_w 25, 3), (43, .lcmp, 1), (44, .ifCond .eq 5, 3), (47, .iload_n 2, 1), (48, .ireturn, 1), (49, .iconst (-1), 1)]
theorem dX8_firstWrongByte_0 : ∀ q ∈ tX8_firstWrongByte_0, decode cX8_firstWrongByte q.1 = .ok q.2 := by decide +kernel
def tX8_firstWrongByte_1 : List (Nat × Instr × Nat) := [(50, .istore_n 1, 1), (51, .goto 24, 3), (54, .lload_n 3, 1), (55, .ldc2_w 27, 3), (58, .lcmp, 1), (59, .ifCond .lt 11, 3), (62, .lload_n 3, 1), (63, .ldc2_w 29, 3), (66, .lcmp, 1), (67, .ifCond .le 5, 3), (70, .iload_n 2, 1), (71, .ireturn, 1), (72, .iinc 1 (-1), 3), (75, .iinc 2 1, 3), (78, .goto (-74), 3), (81, .iload_n 1, 1), (82, .iconst (-1), 1), (83, .if_icmp .ne 15, 3), (86, .aload_n 0, 1), (87, .getfield 11, 3), (90, .ifCond .le 8, 3), (93, .bipush (-4), 2), (95, .goto 7, 3), (98, .aload_n 0, 1), (99, .getfield 11, 3), (102, .ireturn, 1)]
theorem dX8_firstWrongByte_1 : ∀ q ∈ tX8_firstWrongByte_1, decode cX8_firstWrongByte q.1 = .ok q.2 := by decide +kernel
def tX8_statementsOf_0 : List (Nat × Instr × Nat) := [(0, .iconst 0, 1), (1, .istore_n 1, 1), (2, .iconst 0, 1), (3, .istore_n 2, 1), (4, .iload_n 2, 1), (5, .aload_n 0, 1), (6, .getfield 11, 3), (9, .if_icmp .ge 24, 3), (12, .aload_n 0, 1), (13, .iload_n 2, 1), (14, .invokevirtual 17, 3), (17, .ldc2_w 25, 3), (20, .lcmp, 1), (21, .ifCond .ne 6, 3), (24, .iinc 1 1, 3), (27, .iinc 2 1, 3), (30, .goto (-26), 3), (33, .iload_n 1, 1), (34, .ireturn, 1)]
theorem dX8_statementsOf_0 : ∀ q ∈ tX8_statementsOf_0, decode cX8_statementsOf q.1 = .ok q.2 := by decide +kernel
def tX8_firstNotDone_0 : List (Nat × Instr × Nat) := [(0, .iconst 0, 1), (1, .istore_n 2, 1), (2, .iload_n 2, 1), (3, .aload_n 0, 1), (4, .getfield 11, 3), (7, .if_icmp .ge 48, 3), (10, .iload_n 2, 1), (11, .ifCond .eq 17, 3), (14, .aload_n 0, 1), (15, .iload_n 2, 1), (16, .iconst 1, 1), (17, .isub, 1), (18, .invokevirtual 17, 3), (21, .ldc2_w 25, 3), (24, .lcmp, 1), (25, .ifCond .ne 7, 3), (28, .iconst 1, 1), (29, .goto 4, 3), (32, .iconst 0, 1), (33, .istore_n 3, 1), (34, .iload_n 3, 1), (35, .ifCond .eq 14, 3), (38, .aload_n 0, 1), (39, .iload_n 2, 1), (40, .aload_n 1, 1), (41, .invokestatic 31, 3), (44, .ifCond .ne 5, 3), (47, .iload_n 2, 1), (48, .ireturn, 1), (49, .iinc 2 1, 3), (52, .goto (-50), 3), (55, .bipush (-4), 2)]
theorem dX8_firstNotDone_0 : ∀ q ∈ tX8_firstNotDone_0, decode cX8_firstNotDone q.1 = .ok q.2 := by decide +kernel
def tX8_firstNotDone_1 : List (Nat × Instr × Nat) := [(57, .ireturn, 1)]
theorem dX8_firstNotDone_1 : ∀ q ∈ tX8_firstNotDone_1, decode cX8_firstNotDone q.1 = .ok q.2 := by decide +kernel
def tX8_digitAt_0 : List (Nat × Instr × Nat) := [(0, .aload_n 0, 1), (1, .iload_n 1, 1), (2, .invokevirtual 17, 3), (5, .l2i, 1), (6, .bipush 48, 2), (8, .isub, 1), (9, .ireturn, 1)]
theorem dX8_digitAt_0 : ∀ q ∈ tX8_digitAt_0, decode cX8_digitAt q.1 = .ok q.2 := by decide +kernel
def tX8_twoDigitsAt_0 : List (Nat × Instr × Nat) := [(0, .bipush 10, 2), (2, .aload_n 0, 1), (3, .iload_n 1, 1), (4, .invokestatic 35, 3), (7, .imul, 1), (8, .aload_n 0, 1), (9, .iload_n 1, 1), (10, .iconst 1, 1), (11, .iadd, 1), (12, .invokestatic 35, 3), (15, .iadd, 1), (16, .ireturn, 1)]
theorem dX8_twoDigitsAt_0 : ∀ q ∈ tX8_twoDigitsAt_0, decode cX8_twoDigitsAt q.1 = .ok q.2 := by decide +kernel
def tX8_isDone_0 : List (Nat × Instr × Nat) := [(0, .aload_n 0, 1), (1, .iload_n 1, 1), (2, .invokevirtual 17, 3), (5, .l2i, 1), (6, .tableswitch 165 100 119 #[146, 165, 165, 94, 101, 165, 165, 165, 165, 165, 127, 165, 165, 165, 165, 114, 165, 165, 165, 134], 94), (100, .aload_n 0, 1), (101, .iload_n 1, 1), (102, .aload_n 2, 1), (103, .invokestatic 39, 3), (106, .ireturn, 1), (107, .iconst 0, 1), (108, .aload_n 0, 1), (109, .iload_n 1, 1), (110, .iconst 1, 1), (111, .iadd, 1), (112, .invokestatic 42, 3), (115, .aload_n 2, 1), (116, .invokestatic 45, 3), (119, .ireturn, 1), (120, .iconst 1, 1), (121, .aload_n 0, 1), (122, .iload_n 1, 1), (123, .iconst 1, 1), (124, .iadd, 1), (125, .invokestatic 42, 3), (128, .aload_n 2, 1), (129, .invokestatic 45, 3), (132, .ireturn, 1), (133, .aload_n 0, 1), (134, .iload_n 1, 1), (135, .aload_n 2, 1), (136, .invokestatic 49, 3)]
theorem dX8_isDone_0 : ∀ q ∈ tX8_isDone_0, decode cX8_isDone q.1 = .ok q.2 := by decide +kernel
def tX8_isDone_1 : List (Nat × Instr × Nat) := [(139, .ireturn, 1), (140, .aload_n 0, 1), (141, .iload_n 1, 1), (142, .iconst 1, 1), (143, .iadd, 1), (144, .invokestatic 35, 3), (147, .aload_n 2, 1), (148, .invokestatic 52, 3), (151, .ireturn, 1), (152, .aload_n 2, 1), (153, .aload_n 0, 1), (154, .iload_n 1, 1), (155, .iconst 1, 1), (156, .iadd, 1), (157, .invokestatic 35, 3), (160, .aload_n 0, 1), (161, .iload_n 1, 1), (162, .iconst 2, 1), (163, .iadd, 1), (164, .invokestatic 35, 3), (167, .invokevirtual 56, 3), (170, .ireturn, 1), (171, .iconst 0, 1), (172, .ireturn, 1)]
theorem dX8_isDone_1 : ∀ q ∈ tX8_isDone_1, decode cX8_isDone q.1 = .ok q.2 := by decide +kernel
def tX8_isLaid_0 : List (Nat × Instr × Nat) := [(0, .aload_n 0, 1), (1, .iload_n 1, 1), (2, .iconst 1, 1), (3, .iadd, 1), (4, .invokestatic 35, 3), (7, .istore_n 3, 1), (8, .aload_n 0, 1), (9, .iload_n 1, 1), (10, .iconst 3, 1), (11, .iadd, 1), (12, .invokestatic 42, 3), (15, .istore 4, 2), (17, .iload_n 3, 1), (18, .invokestatic 62, 3), (21, .ifCond .eq 12, 3), (24, .iload 4, 2), (26, .i2l, 1), (27, .invokestatic 68, 3), (30, .ifCond .ne 5, 3), (33, .iconst 0, 1), (34, .ireturn, 1), (35, .aload_n 2, 1), (36, .iload 4, 2), (38, .iload_n 3, 1), (39, .aload_n 0, 1), (40, .iload_n 1, 1), (41, .iconst 2, 1), (42, .iadd, 1), (43, .invokestatic 35, 3), (46, .invokevirtual 72, 3), (49, .iconst 1, 1), (50, .ireturn, 1)]
theorem dX8_isLaid_0 : ∀ q ∈ tX8_isLaid_0, decode cX8_isLaid q.1 = .ok q.2 := by decide +kernel
def tX8_isPlaced_0 : List (Nat × Instr × Nat) := [(0, .aload_n 2, 1), (1, .iload_n 1, 1), (2, .invokevirtual 76, 3), (5, .ifCond .ne 5, 3), (8, .iconst 0, 1), (9, .ireturn, 1), (10, .aload_n 2, 1), (11, .iload_n 0, 1), (12, .iload_n 1, 1), (13, .invokevirtual 79, 3), (16, .iconst 1, 1), (17, .ireturn, 1)]
theorem dX8_isPlaced_0 : ∀ q ∈ tX8_isPlaced_0, decode cX8_isPlaced q.1 = .ok q.2 := by decide +kernel
def tX8_isBound_0 : List (Nat × Instr × Nat) := [(0, .aload_n 0, 1), (1, .iload_n 1, 1), (2, .iconst 1, 1), (3, .iadd, 1), (4, .invokestatic 42, 3), (7, .istore_n 3, 1), (8, .aload_n 0, 1), (9, .iload_n 1, 1), (10, .iconst 3, 1), (11, .iadd, 1), (12, .invokestatic 42, 3), (15, .istore 4, 2), (17, .iload_n 3, 1), (18, .invokestatic 83, 3), (21, .ifCond .eq 11, 3), (24, .iload 4, 2), (26, .invokestatic 83, 3), (29, .ifCond .ne 5, 3), (32, .iconst 0, 1), (33, .ireturn, 1), (34, .aload_n 2, 1), (35, .iload_n 3, 1), (36, .putfield 86, 3), (39, .aload_n 2, 1), (40, .iload 4, 2), (42, .putfield 89, 3), (45, .iconst 1, 1), (46, .ireturn, 1)]
theorem dX8_isBound_0 : ∀ q ∈ tX8_isBound_0, decode cX8_isBound q.1 = .ok q.2 := by decide +kernel
def tX8_isWintered_0 : List (Nat × Instr × Nat) := [(0, .iload_n 0, 1), (1, .invokestatic 92, 3), (4, .ifCond .ne 5, 3), (7, .iconst 0, 1), (8, .ireturn, 1), (9, .aload_n 1, 1), (10, .iload_n 0, 1), (11, .putfield 95, 3), (14, .iconst 1, 1), (15, .ireturn, 1)]
theorem dX8_isWintered_0 : ∀ q ∈ tX8_isWintered_0, decode cX8_isWintered q.1 = .ok q.2 := by decide +kernel
def tX9_init_0 : List (Nat × Instr × Nat) := [(0, .aload_n 0, 1), (1, .invokespecial 3, 3), (4, .aload_n 0, 1), (5, .bipush 100, 2), (7, .newarray .long, 2), (9, .putfield 9, 3), (12, .aload_n 0, 1), (13, .bipush 36, 2), (15, .newarray .long, 2), (17, .putfield 15, 3), (20, .aload_n 0, 1), (21, .bipush 36, 2), (23, .newarray .long, 2), (25, .putfield 18, 3), (28, .return_, 1)]
theorem dX9_init_0 : ∀ q ∈ tX9_init_0, decode cX9_init q.1 = .ok q.2 := by decide +kernel
def tX9_isOfCells_0 : List (Nat × Instr × Nat) := [(0, .iconst 0, 1), (1, .istore_n 1, 1), (2, .iload_n 1, 1), (3, .aload_n 0, 1), (4, .getfield 21, 3), (7, .if_icmp .ge 22, 3), (10, .aload_n 0, 1), (11, .iload_n 1, 1), (12, .invokevirtual 27, 3), (15, .invokestatic 31, 3), (18, .ifCond .ne 5, 3), (21, .iconst 0, 1), (22, .ireturn, 1), (23, .iinc 1 1, 3), (26, .goto (-24), 3), (29, .aload_n 0, 1), (30, .getfield 21, 3), (33, .ifCond .le 7, 3), (36, .iconst 1, 1), (37, .goto 4, 3), (40, .iconst 0, 1), (41, .ireturn, 1)]
theorem dX9_isOfCells_0 : ∀ q ∈ tX9_isOfCells_0, decode cX9_isOfCells q.1 = .ok q.2 := by decide +kernel
def tX9_firstWrongPlace_0 : List (Nat × Instr × Nat) := [(0, .aload_n 1, 1), (1, .invokevirtual 35, 3), (4, .lstore_n 2, 1), (5, .aload_n 1, 1), (6, .getfield 41, 3), (9, .invokestatic 44, 3), (12, .lstore 4, 2), (14, .iconst 0, 1), (15, .istore 6, 2), (17, .iload 6, 2), (19, .aload_n 0, 1), (20, .getfield 21, 3), (23, .if_icmp .ge 93, 3), (26, .aload_n 0, 1), (27, .iload 6, 2), (29, .invokevirtual 27, 3), (32, .lstore 7, 2), (34, .iload 6, 2), (36, .ifCond .le 15, 3), (39, .lload 4, 2), (41, .lload 4, 2), (43, .invokestatic 49, 3), (46, .lload_n 2, 1), (47, .land, 1), (48, .lor, 1), (49, .lstore 4, 2), (51, .lload 7, 2), (53, .aload_n 0, 1), (54, .invokevirtual 53, 3), (57, .lcmp, 1), (58, .ifCond .eq 52, 3), (61, .lload 7, 2)]
theorem dX9_firstWrongPlace_0 : ∀ q ∈ tX9_firstWrongPlace_0, decode cX9_firstWrongPlace q.1 = .ok q.2 := by decide +kernel
def tX9_firstWrongPlace_1 : List (Nat × Instr × Nat) := [(63, .invokestatic 31, 3), (66, .ifCond .eq 12, 3), (69, .lload 7, 2), (71, .l2i, 1), (72, .invokestatic 44, 3), (75, .goto 4, 3), (78, .lconst 0, 1), (79, .lstore 9, 2), (81, .lload 4, 2), (83, .iload 6, 2), (85, .ifCond .le 10, 3), (88, .lload 9, 2), (90, .lload_n 2, 1), (91, .land, 1), (92, .goto 5, 3), (95, .lload 9, 2), (97, .land, 1), (98, .lstore 4, 2), (100, .lload 4, 2), (102, .lconst 0, 1), (103, .lcmp, 1), (104, .ifCond .ne 6, 3), (107, .iload 6, 2), (109, .ireturn, 1), (110, .iinc 6 1, 3), (113, .goto (-96), 3), (116, .bipush (-4), 2), (118, .ireturn, 1)]
theorem dX9_firstWrongPlace_1 : ∀ q ∈ tX9_firstWrongPlace_1, decode cX9_firstWrongPlace q.1 = .ok q.2 := by decide +kernel
def tX9_fitOn_0 : List (Nat × Instr × Nat) := [(0, .aload_n 2, 1), (1, .aload_n 0, 1), (2, .iload_n 1, 1), (3, .invokevirtual 27, 3), (6, .l2i, 1), (7, .invokevirtual 56, 3), (10, .lload_n 3, 1), (11, .land, 1), (12, .lreturn, 1)]
theorem dX9_fitOn_0 : ∀ q ∈ tX9_fitOn_0, decode cX9_fitOn q.1 = .ok q.2 := by decide +kernel
def tX9_follow_0 : List (Nat × Instr × Nat) := [(0, .lload_n 3, 1), (1, .lstore 5, 2), (3, .iconst 0, 1), (4, .istore 7, 2), (6, .iload 7, 2), (8, .aload_n 1, 1), (9, .getfield 21, 3), (12, .if_icmp .ge 41, 3), (15, .iload 7, 2), (17, .bipush 100, 2), (19, .if_icmp .ge 34, 3), (22, .lload 5, 2), (24, .invokestatic 49, 3), (27, .aload_n 1, 1), (28, .iload 7, 2), (30, .aload_n 2, 1), (31, .lload_n 3, 1), (32, .invokestatic 61, 3), (35, .land, 1), (36, .lstore 5, 2), (38, .aload_n 0, 1), (39, .getfield 9, 3), (42, .iload 7, 2), (44, .lload 5, 2), (46, .lastore, 1), (47, .iinc 7 1, 3), (50, .goto (-44), 3), (53, .lload 5, 2), (55, .lreturn, 1)]
theorem dX9_follow_0 : ∀ q ∈ tX9_follow_0, decode cX9_follow q.1 = .ok q.2 := by decide +kernel
def tX9_bestDay_0 : List (Nat × Instr × Nat) := [(0, .bipush (-4), 2), (2, .istore 5, 2), (4, .bipush 37, 2), (6, .istore 6, 2), (8, .aload_n 1, 1), (9, .getfield 21, 3), (12, .bipush 100, 2), (14, .invokestatic 65, 3), (17, .iconst 1, 1), (18, .isub, 1), (19, .istore 7, 2), (21, .iload 7, 2), (23, .istore 8, 2), (25, .iload 8, 2), (27, .ifCond .lt 135, 3), (30, .aload_n 1, 1), (31, .iload 8, 2), (33, .aload_n 2, 1), (34, .lload_n 3, 1), (35, .invokestatic 61, 3), (38, .lstore 9, 2), (40, .iconst 0, 1), (41, .istore 11, 2), (43, .iload 11, 2), (45, .bipush 36, 2), (47, .if_icmp .ge 37, 3), (50, .aload_n 0, 1), (51, .getfield 18, 3), (54, .iload 11, 2), (56, .iload 8, 2), (58, .iload 7, 2), (60, .if_icmp .ne 11, 3)]
theorem dX9_bestDay_0 : ∀ q ∈ tX9_bestDay_0, decode cX9_bestDay q.1 = .ok q.2 := by decide +kernel
def tX9_bestDay_1 : List (Nat × Instr × Nat) := [(63, .iload 11, 2), (65, .invokestatic 44, 3), (68, .goto 9, 3), (71, .aload_n 0, 1), (72, .iload 11, 2), (74, .invokevirtual 71, 3), (77, .lastore, 1), (78, .iinc 11 1, 3), (81, .goto (-38), 3), (84, .iconst 0, 1), (85, .istore 11, 2), (87, .iload 11, 2), (89, .bipush 36, 2), (91, .if_icmp .ge 37, 3), (94, .aload_n 0, 1), (95, .getfield 15, 3), (98, .iload 11, 2), (100, .lload 9, 2), (102, .iload 11, 2), (104, .invokestatic 74, 3), (107, .ifCond .eq 13, 3), (110, .aload_n 0, 1), (111, .getfield 18, 3), (114, .iload 11, 2), (116, .laload, 1), (117, .goto 4, 3), (120, .lconst 0, 1), (121, .lastore, 1), (122, .iinc 11 1, 3), (125, .goto (-38), 3), (128, .aload_n 0, 1), (129, .aload_n 0, 1)]
theorem dX9_bestDay_1 : ∀ q ∈ tX9_bestDay_1, decode cX9_bestDay q.1 = .ok q.2 := by decide +kernel
def tX9_bestDay_2 : List (Nat × Instr × Nat) := [(130, .getfield 9, 3), (133, .iload 8, 2), (135, .laload, 1), (136, .invokevirtual 78, 3), (139, .istore 11, 2), (141, .iload 11, 2), (143, .iload 6, 2), (145, .if_icmp .gt 11, 3), (148, .iload 11, 2), (150, .istore 6, 2), (152, .iload 8, 2), (154, .istore 5, 2), (156, .iinc 8 (-1), 3), (159, .goto (-134), 3), (162, .iload 5, 2), (164, .ireturn, 1)]
theorem dX9_bestDay_2 : ∀ q ∈ tX9_bestDay_2, decode cX9_bestDay q.1 = .ok q.2 := by decide +kernel
def tX9_leftAround_0 : List (Nat × Instr × Nat) := [(0, .lconst 0, 1), (1, .lstore_n 2, 1), (2, .iconst 0, 1), (3, .istore 4, 2), (5, .iload 4, 2), (7, .iconst 5, 1), (8, .if_icmp .ge 36, 3), (11, .iload_n 1, 1), (12, .iload 4, 2), (14, .invokestatic 82, 3), (17, .istore 5, 2), (19, .iload 5, 2), (21, .i2l, 1), (22, .invokestatic 31, 3), (25, .ifCond .eq 13, 3), (28, .lload_n 2, 1), (29, .aload_n 0, 1), (30, .getfield 15, 3), (33, .iload 5, 2), (35, .laload, 1), (36, .lor, 1), (37, .lstore_n 2, 1), (38, .iinc 4 1, 3), (41, .goto (-36), 3), (44, .lload_n 2, 1), (45, .lreturn, 1)]
theorem dX9_leftAround_0 : ∀ q ∈ tX9_leftAround_0, decode cX9_leftAround q.1 = .ok q.2 := by decide +kernel
def tX9_worstOf_0 : List (Nat × Instr × Nat) := [(0, .iconst 0, 1), (1, .istore_n 3, 1), (2, .iconst 0, 1), (3, .istore 4, 2), (5, .iload 4, 2), (7, .bipush 36, 2), (9, .if_icmp .ge 33, 3), (12, .lload_n 1, 1), (13, .iload 4, 2), (15, .invokestatic 74, 3), (18, .ifCond .eq 18, 3), (21, .iload_n 3, 1), (22, .aload_n 0, 1), (23, .getfield 15, 3), (26, .iload 4, 2), (28, .laload, 1), (29, .invokestatic 85, 3), (32, .invokestatic 90, 3), (35, .istore_n 3, 1), (36, .iinc 4 1, 3), (39, .goto (-34), 3), (42, .iload_n 3, 1), (43, .ireturn, 1)]
theorem dX9_worstOf_0 : ∀ q ∈ tX9_worstOf_0, decode cX9_worstOf q.1 = .ok q.2 := by decide +kernel
def tX10_init_0 : List (Nat × Instr × Nat) := [(0, .aload_n 0, 1), (1, .invokespecial 3, 3), (4, .aload_n 0, 1), (5, .new 9, 3), (8, .dup, 1), (9, .invokespecial 11, 3), (12, .putfield 12, 3), (15, .aload_n 0, 1), (16, .new 9, 3), (19, .dup, 1), (20, .invokespecial 11, 3), (23, .putfield 16, 3), (26, .aload_n 0, 1), (27, .new 9, 3), (30, .dup, 1), (31, .invokespecial 11, 3), (34, .putfield 19, 3), (37, .aload_n 0, 1), (38, .new 22, 3), (41, .dup, 1), (42, .invokespecial 24, 3), (45, .putfield 25, 3), (48, .aload_n 0, 1), (49, .new 29, 3), (52, .dup, 1), (53, .invokespecial 31, 3), (56, .putfield 32, 3), (59, .aload_n 0, 1), (60, .new 36, 3), (63, .dup, 1), (64, .invokespecial 38, 3), (67, .putfield 39, 3)]
theorem dX10_init_0 : ∀ q ∈ tX10_init_0, decode cX10_init q.1 = .ok q.2 := by decide +kernel
def tX10_init_1 : List (Nat × Instr × Nat) := [(70, .aload_n 0, 1), (71, .new 43, 3), (74, .dup, 1), (75, .invokespecial 45, 3), (78, .putfield 46, 3), (81, .aload_n 0, 1), (82, .bipush 8, 2), (84, .anewarray 43, 3), (87, .putfield 50, 3), (90, .iconst 0, 1), (91, .istore_n 1, 1), (92, .iload_n 1, 1), (93, .aload_n 0, 1), (94, .getfield 50, 3), (97, .arraylength, 1), (98, .if_icmp .ge 22, 3), (101, .aload_n 0, 1), (102, .getfield 50, 3), (105, .iload_n 1, 1), (106, .new 43, 3), (109, .dup, 1), (110, .invokespecial 45, 3), (113, .aastore, 1), (114, .iinc 1 1, 3), (117, .goto (-25), 3), (120, .return_, 1)]
theorem dX10_init_1 : ∀ q ∈ tX10_init_1, decode cX10_init q.1 = .ok q.2 := by decide +kernel
def tX10_land_0 : List (Nat × Instr × Nat) := [(0, .aload_n 0, 1), (1, .iload_n 1, 1), (2, .invokevirtual 54, 3), (5, .istore_n 2, 1), (6, .iload_n 2, 1), (7, .ifCond .eq 5, 3), (10, .iload_n 2, 1), (11, .ireturn, 1), (12, .aload_n 0, 1), (13, .iload_n 1, 1), (14, .invokevirtual 58, 3), (17, .astore_n 3, 1), (18, .aload_n 3, 1), (19, .getfield 62, 3), (22, .ifCond .eq 6, 3), (25, .bipush (-12), 2), (27, .ireturn, 1), (28, .aload_n 3, 1), (29, .invokestatic 66, 3), (32, .istore 4, 2), (34, .iload 4, 2), (36, .bipush (-4), 2), (38, .if_icmp .eq 10, 3), (41, .sipush (-1000), 3), (44, .iload 4, 2), (46, .isub, 1), (47, .ireturn, 1), (48, .aload_n 0, 1), (49, .getfield 19, 3), (52, .aload_n 0, 1), (53, .getfield 12, 3), (56, .invokevirtual 72, 3)]
theorem dX10_land_0 : ∀ q ∈ tX10_land_0, decode cX10_land q.1 = .ok q.2 := by decide +kernel
def tX10_land_1 : List (Nat × Instr × Nat) := [(59, .aload_n 3, 1), (60, .aload_n 0, 1), (61, .getfield 19, 3), (64, .invokestatic 76, 3), (67, .istore 4, 2), (69, .iload 4, 2), (71, .bipush (-4), 2), (73, .if_icmp .eq 10, 3), (76, .sipush (-2000), 3), (79, .iload 4, 2), (81, .isub, 1), (82, .ireturn, 1), (83, .aload_n 0, 1), (84, .getfield 12, 3), (87, .aload_n 0, 1), (88, .getfield 19, 3), (91, .invokevirtual 72, 3), (94, .aload_n 3, 1), (95, .invokestatic 80, 3), (98, .ireturn, 1)]
theorem dX10_land_1 : ∀ q ∈ tX10_land_1, decode cX10_land q.1 = .ok q.2 := by decide +kernel
def tX10_ground_0 : List (Nat × Instr × Nat) := [(0, .iload_n 1, 1), (1, .i2l, 1), (2, .invokestatic 83, 3), (5, .ifCond .ne 5, 3), (8, .iconst (-1), 1), (9, .ireturn, 1), (10, .iload_n 2, 1), (11, .tableswitch 86 0 4 #[33, 42, 51, 60, 77], 33), (44, .aload_n 0, 1), (45, .getfield 12, 3), (48, .iload_n 1, 1), (49, .invokevirtual 87, 3), (52, .ireturn, 1), (53, .aload_n 0, 1), (54, .getfield 12, 3), (57, .iload_n 1, 1), (58, .invokevirtual 90, 3), (61, .ireturn, 1), (62, .aload_n 0, 1), (63, .getfield 12, 3), (66, .iload_n 1, 1), (67, .invokevirtual 93, 3), (70, .ireturn, 1), (71, .aload_n 0, 1), (72, .getfield 12, 3), (75, .iload_n 1, 1), (76, .invokevirtual 96, 3), (79, .ifCond .eq 7, 3), (82, .iconst 1, 1), (83, .goto 4, 3), (86, .iconst 0, 1), (87, .ireturn, 1)]
theorem dX10_ground_0 : ∀ q ∈ tX10_ground_0, decode cX10_ground q.1 = .ok q.2 := by decide +kernel
def tX10_ground_1 : List (Nat × Instr × Nat) := [(88, .aload_n 0, 1), (89, .getfield 12, 3), (92, .iload_n 1, 1), (93, .invokevirtual 100, 3), (96, .ireturn, 1), (97, .iconst (-1), 1), (98, .ireturn, 1)]
theorem dX10_ground_1 : ∀ q ∈ tX10_ground_1, decode cX10_ground q.1 = .ok q.2 := by decide +kernel
def tX10_lays_0 : List (Nat × Instr × Nat) := [(0, .iload_n 2, 1), (1, .i2l, 1), (2, .invokestatic 83, 3), (5, .ifCond .eq 11, 3), (8, .aload_n 0, 1), (9, .iload_n 1, 1), (10, .invokevirtual 103, 3), (13, .goto 4, 3), (16, .iconst (-1), 1), (17, .istore_n 3, 1), (18, .iload_n 3, 1), (19, .ifCond .eq 5, 3), (22, .iload_n 3, 1), (23, .ireturn, 1), (24, .aload_n 0, 1), (25, .getfield 12, 3), (28, .iload_n 2, 1), (29, .invokevirtual 87, 3), (32, .istore 4, 2), (34, .aload_n 0, 1), (35, .getfield 12, 3), (38, .iload_n 2, 1), (39, .aload_n 0, 1), (40, .iload_n 1, 1), (41, .invokevirtual 58, 3), (44, .getfield 106, 3), (47, .aload_n 0, 1), (48, .iload_n 1, 1), (49, .invokevirtual 58, 3), (52, .getfield 109, 3), (55, .invokevirtual 112, 3), (58, .iload 4, 2)]
theorem dX10_lays_0 : ∀ q ∈ tX10_lays_0, decode cX10_lays q.1 = .ok q.2 := by decide +kernel
def tX10_lays_1 : List (Nat × Instr × Nat) := [(60, .ireturn, 1)]
theorem dX10_lays_1 : ∀ q ∈ tX10_lays_1, decode cX10_lays q.1 = .ok q.2 := by decide +kernel
def tX10_stands_0 : List (Nat × Instr × Nat) := [(0, .iload_n 1, 1), (1, .invokestatic 116, 3), (4, .ifCond .eq 11, 3), (7, .iload_n 2, 1), (8, .i2l, 1), (9, .invokestatic 83, 3), (12, .ifCond .ne 5, 3), (15, .iconst (-1), 1), (16, .ireturn, 1), (17, .aload_n 0, 1), (18, .getfield 12, 3), (21, .iload_n 2, 1), (22, .invokevirtual 96, 3), (25, .ifCond .ne 6, 3), (28, .bipush (-3), 2), (30, .ireturn, 1), (31, .iload_n 1, 1), (32, .ifCond .ne 13, 3), (35, .aload_n 0, 1), (36, .getfield 12, 3), (39, .getfield 119, 3), (42, .goto 10, 3), (45, .aload_n 0, 1), (46, .getfield 12, 3), (49, .getfield 122, 3), (52, .istore_n 3, 1), (53, .aload_n 0, 1), (54, .getfield 12, 3), (57, .iload_n 1, 1), (58, .iload_n 2, 1), (59, .invokevirtual 125, 3), (62, .iload_n 3, 1)]
theorem dX10_stands_0 : ∀ q ∈ tX10_stands_0, decode cX10_stands q.1 = .ok q.2 := by decide +kernel
def tX10_stands_1 : List (Nat × Instr × Nat) := [(63, .ireturn, 1)]
theorem dX10_stands_1 : ∀ q ∈ tX10_stands_1, decode cX10_stands q.1 = .ok q.2 := by decide +kernel
def tX10_set_0 : List (Nat × Instr × Nat) := [(0, .iload_n 1, 1), (1, .ifCond .ne 29, 3), (4, .iload_n 2, 1), (5, .invokestatic 129, 3), (8, .ifCond .eq 22, 3), (11, .aload_n 0, 1), (12, .getfield 12, 3), (15, .getfield 132, 3), (18, .istore_n 3, 1), (19, .aload_n 0, 1), (20, .getfield 12, 3), (23, .iload_n 2, 1), (24, .putfield 132, 3), (27, .goto 67, 3), (30, .iload_n 1, 1), (31, .iconst 1, 1), (32, .if_icmp .ne 29, 3), (35, .iload_n 2, 1), (36, .invokestatic 129, 3), (39, .ifCond .eq 22, 3), (42, .aload_n 0, 1), (43, .getfield 12, 3), (46, .getfield 135, 3), (49, .istore_n 3, 1), (50, .aload_n 0, 1), (51, .getfield 12, 3), (54, .iload_n 2, 1), (55, .putfield 135, 3), (58, .goto 36, 3), (61, .iload_n 1, 1), (62, .iconst 2, 1), (63, .if_icmp .ne 29, 3)]
theorem dX10_set_0 : ∀ q ∈ tX10_set_0, decode cX10_set q.1 = .ok q.2 := by decide +kernel
def tX10_set_1 : List (Nat × Instr × Nat) := [(66, .iload_n 2, 1), (67, .invokestatic 116, 3), (70, .ifCond .eq 22, 3), (73, .aload_n 0, 1), (74, .getfield 12, 3), (77, .getfield 138, 3), (80, .istore_n 3, 1), (81, .aload_n 0, 1), (82, .getfield 12, 3), (85, .iload_n 2, 1), (86, .putfield 138, 3), (89, .goto 5, 3), (92, .iconst (-1), 1), (93, .istore_n 3, 1), (94, .iload_n 3, 1), (95, .ireturn, 1)]
theorem dX10_set_1 : ∀ q ∈ tX10_set_1, decode cX10_set q.1 = .ok q.2 := by decide +kernel
def tX10_go_0 : List (Nat × Instr × Nat) := [(0, .iload_n 1, 1), (1, .invokestatic 141, 3), (4, .ifCond .eq 10, 3), (7, .iload_n 2, 1), (8, .invokestatic 141, 3), (11, .ifCond .ne 5, 3), (14, .iconst (-1), 1), (15, .ireturn, 1), (16, .aload_n 0, 1), (17, .getfield 12, 3), (20, .iload_n 1, 1), (21, .iload_n 2, 1), (22, .invokevirtual 144, 3), (25, .ifCond .eq 27, 3), (28, .aload_n 0, 1), (29, .getfield 12, 3), (32, .aload_n 0, 1), (33, .getfield 12, 3), (36, .getfield 119, 3), (39, .aload_n 0, 1), (40, .getfield 12, 3), (43, .getfield 122, 3), (46, .invokevirtual 148, 3), (49, .goto 5, 3), (52, .bipush (-3), 2), (54, .ireturn, 1)]
theorem dX10_go_0 : ∀ q ∈ tX10_go_0, decode cX10_go q.1 = .ok q.2 := by decide +kernel
def tX10_far_0 : List (Nat × Instr × Nat) := [(0, .iload_n 1, 1), (1, .i2l, 1), (2, .invokestatic 83, 3), (5, .ifCond .eq 23, 3), (8, .iload_n 2, 1), (9, .i2l, 1), (10, .invokestatic 83, 3), (13, .ifCond .eq 15, 3), (16, .aload_n 0, 1), (17, .getfield 12, 3), (20, .iload_n 1, 1), (21, .iload_n 2, 1), (22, .invokevirtual 148, 3), (25, .goto 4, 3), (28, .iconst (-1), 1), (29, .ireturn, 1)]
theorem dX10_far_0 : ∀ q ∈ tX10_far_0, decode cX10_far q.1 = .ok q.2 := by decide +kernel
def tX10_steps_0 : List (Nat × Instr × Nat) := [(0, .iload_n 1, 1), (1, .i2l, 1), (2, .invokestatic 83, 3), (5, .ifCond .eq 26, 3), (8, .iload_n 2, 1), (9, .i2l, 1), (10, .invokestatic 83, 3), (13, .ifCond .eq 18, 3), (16, .iload_n 1, 1), (17, .iload_n 2, 1), (18, .aload_n 0, 1), (19, .getfield 12, 3), (22, .invokevirtual 152, 3), (25, .invokestatic 156, 3), (28, .goto 4, 3), (31, .iconst (-1), 1), (32, .ireturn, 1)]
theorem dX10_steps_0 : ∀ q ∈ tX10_steps_0, decode cX10_steps q.1 = .ok q.2 := by decide +kernel
def tX10_pairs_0 : List (Nat × Instr × Nat) := [(0, .iload_n 1, 1), (1, .iconst (-1), 1), (2, .if_icmp .ge 5, 3), (5, .iconst (-1), 1), (6, .ireturn, 1), (7, .aload_n 0, 1), (8, .getfield 25, 3), (11, .aload_n 0, 1), (12, .getfield 12, 3), (15, .invokevirtual 162, 3), (18, .iload_n 1, 1), (19, .iconst (-1), 1), (20, .if_icmp .ne 13, 3), (23, .aload_n 0, 1), (24, .getfield 25, 3), (27, .invokevirtual 165, 3), (30, .goto 11, 3), (33, .aload_n 0, 1), (34, .getfield 25, 3), (37, .iload_n 1, 1), (38, .invokevirtual 169, 3), (41, .ireturn, 1)]
theorem dX10_pairs_0 : ∀ q ∈ tX10_pairs_0, decode cX10_pairs q.1 = .ok q.2 := by decide +kernel
def tX10_islands_0 : List (Nat × Instr × Nat) := [(0, .aload_n 0, 1), (1, .getfield 12, 3), (4, .invokevirtual 152, 3), (7, .invokestatic 172, 3), (10, .ireturn, 1)]
theorem dX10_islands_0 : ∀ q ∈ tX10_islands_0, decode cX10_islands q.1 = .ok q.2 := by decide +kernel
def tX10_island_0 : List (Nat × Instr × Nat) := [(0, .iload_n 1, 1), (1, .i2l, 1), (2, .invokestatic 83, 3), (5, .ifCond .ne 5, 3), (8, .iconst (-1), 1), (9, .ireturn, 1), (10, .aload_n 0, 1), (11, .getfield 12, 3), (14, .invokevirtual 152, 3), (17, .lstore_n 2, 1), (18, .lload_n 2, 1), (19, .iload_n 1, 1), (20, .invokestatic 176, 3), (23, .ifCond .eq 14, 3), (26, .iload_n 1, 1), (27, .lload_n 2, 1), (28, .invokestatic 180, 3), (31, .invokestatic 184, 3), (34, .goto 5, 3), (37, .bipush (-3), 2), (39, .ireturn, 1)]
theorem dX10_island_0 : ∀ q ∈ tX10_island_0, decode cX10_island q.1 = .ok q.2 := by decide +kernel
def tX10_middle_0 : List (Nat × Instr × Nat) := [(0, .iload_n 1, 1), (1, .invokestatic 116, 3), (4, .ifCond .ne 5, 3), (7, .iconst (-1), 1), (8, .ireturn, 1), (9, .aload_n 0, 1), (10, .getfield 12, 3), (13, .invokevirtual 152, 3), (16, .lstore_n 2, 1), (17, .lload_n 2, 1), (18, .invokestatic 189, 3), (21, .istore 4, 2), (23, .iload_n 1, 1), (24, .ifCond .eq 10, 3), (27, .iload 4, 2), (29, .bipush (-4), 2), (31, .if_icmp .ne 8, 3), (34, .iload 4, 2), (36, .goto 9, 3), (39, .iload 4, 2), (41, .lload_n 2, 1), (42, .invokestatic 192, 3), (45, .ireturn, 1)]
theorem dX10_middle_0 : ∀ q ∈ tX10_middle_0, decode cX10_middle q.1 = .ok q.2 := by decide +kernel
def tX10_see_0 : List (Nat × Instr × Nat) := [(0, .aload_n 0, 1), (1, .iload_n 1, 1), (2, .iload_n 2, 1), (3, .invokevirtual 196, 3), (6, .istore_n 3, 1), (7, .iload_n 3, 1), (8, .ifCond .eq 5, 3), (11, .iload_n 3, 1), (12, .ireturn, 1), (13, .aload_n 0, 1), (14, .getfield 25, 3), (17, .aload_n 0, 1), (18, .getfield 12, 3), (21, .invokevirtual 162, 3), (24, .aload_n 0, 1), (25, .getfield 25, 3), (28, .aload_n 0, 1), (29, .getfield 12, 3), (32, .getfield 119, 3), (35, .aload_n 0, 1), (36, .getfield 12, 3), (39, .getfield 122, 3), (42, .iload_n 1, 1), (43, .iload_n 2, 1), (44, .invokevirtual 199, 3), (47, .ireturn, 1)]
theorem dX10_see_0 : ∀ q ∈ tX10_see_0, decode cX10_see q.1 = .ok q.2 := by decide +kernel
def tX10_way_0 : List (Nat × Instr × Nat) := [(0, .iload_n 3, 1), (1, .ifCond .ge 7, 3), (4, .iconst (-1), 1), (5, .goto 9, 3), (8, .aload_n 0, 1), (9, .iload_n 1, 1), (10, .iload_n 2, 1), (11, .invokevirtual 196, 3), (14, .istore 4, 2), (16, .iload 4, 2), (18, .ifCond .eq 6, 3), (21, .iload 4, 2), (23, .ireturn, 1), (24, .aload_n 0, 1), (25, .getfield 25, 3), (28, .aload_n 0, 1), (29, .getfield 12, 3), (32, .invokevirtual 162, 3), (35, .aload_n 0, 1), (36, .getfield 25, 3), (39, .aload_n 0, 1), (40, .getfield 12, 3), (43, .getfield 119, 3), (46, .aload_n 0, 1), (47, .getfield 12, 3), (50, .getfield 122, 3), (53, .iload_n 1, 1), (54, .iload_n 2, 1), (55, .invokevirtual 199, 3), (58, .istore 5, 2), (60, .iload 5, 2), (62, .bipush (-4), 2)]
theorem dX10_way_0 : ∀ q ∈ tX10_way_0, decode cX10_way q.1 = .ok q.2 := by decide +kernel
def tX10_way_1 : List (Nat × Instr × Nat) := [(64, .if_icmp .eq 9, 3), (67, .iload_n 3, 1), (68, .iload 5, 2), (70, .if_icmp .le 8, 3), (73, .bipush (-4), 2), (75, .goto 25, 3), (78, .aload_n 0, 1), (79, .getfield 25, 3), (82, .aload_n 0, 1), (83, .getfield 12, 3), (86, .getfield 119, 3), (89, .aload_n 0, 1), (90, .getfield 12, 3), (93, .getfield 122, 3), (96, .iload_n 3, 1), (97, .invokevirtual 203, 3), (100, .ireturn, 1)]
theorem dX10_way_1 : ∀ q ∈ tX10_way_1, decode cX10_way q.1 = .ok q.2 := by decide +kernel
def tX10_hinders_0 : List (Nat × Instr × Nat) := [(0, .aload_n 0, 1), (1, .iload_n 1, 1), (2, .iload_n 2, 1), (3, .invokevirtual 196, 3), (6, .istore_n 3, 1), (7, .iload_n 3, 1), (8, .ifCond .eq 5, 3), (11, .iload_n 3, 1), (12, .ireturn, 1), (13, .aload_n 0, 1), (14, .getfield 25, 3), (17, .aload_n 0, 1), (18, .getfield 12, 3), (21, .invokevirtual 162, 3), (24, .aload_n 0, 1), (25, .getfield 25, 3), (28, .aload_n 0, 1), (29, .getfield 12, 3), (32, .getfield 119, 3), (35, .aload_n 0, 1), (36, .getfield 12, 3), (39, .getfield 122, 3), (42, .iload_n 1, 1), (43, .iload_n 2, 1), (44, .invokevirtual 199, 3), (47, .bipush (-4), 2), (49, .if_icmp .eq 6, 3), (52, .bipush (-4), 2), (54, .ireturn, 1), (55, .aload_n 0, 1), (56, .getfield 12, 3), (59, .invokevirtual 152, 3)]
theorem dX10_hinders_0 : ∀ q ∈ tX10_hinders_0, decode cX10_hinders q.1 = .ok q.2 := by decide +kernel
def tX10_hinders_1 : List (Nat × Instr × Nat) := [(62, .lstore 4, 2), (64, .bipush (-4), 2), (66, .istore 6, 2), (68, .sipush 1296, 3), (71, .istore 7, 2), (73, .iconst 0, 1), (74, .istore 8, 2), (76, .iload 8, 2), (78, .bipush 36, 2), (80, .if_icmp .ge 81, 3), (83, .lload 4, 2), (85, .iload 8, 2), (87, .invokestatic 176, 3), (90, .ifCond .ne 65, 3), (93, .aload_n 0, 1), (94, .getfield 25, 3), (97, .lload 4, 2), (99, .iload 8, 2), (101, .invokestatic 207, 3), (104, .lor, 1), (105, .invokevirtual 211, 3), (108, .aload_n 0, 1), (109, .getfield 25, 3), (112, .aload_n 0, 1), (113, .getfield 12, 3), (116, .getfield 119, 3), (119, .aload_n 0, 1), (120, .getfield 12, 3), (123, .getfield 122, 3), (126, .iload_n 1, 1), (127, .iload_n 2, 1), (128, .invokevirtual 199, 3)]
theorem dX10_hinders_1 : ∀ q ∈ tX10_hinders_1, decode cX10_hinders q.1 = .ok q.2 := by decide +kernel
def tX10_hinders_2 : List (Nat × Instr × Nat) := [(131, .istore 9, 2), (133, .iload 9, 2), (135, .bipush (-4), 2), (137, .if_icmp .eq 18, 3), (140, .iload 9, 2), (142, .iload 7, 2), (144, .if_icmp .ge 11, 3), (147, .iload 9, 2), (149, .istore 7, 2), (151, .iload 8, 2), (153, .istore 6, 2), (155, .iinc 8 1, 3), (158, .goto (-82), 3), (161, .iload 6, 2), (163, .ireturn, 1)]
theorem dX10_hinders_2 : ∀ q ∈ tX10_hinders_2, decode cX10_hinders q.1 = .ok q.2 := by decide +kernel
def tX10_needs_0 : List (Nat × Instr × Nat) := [(0, .aload_n 0, 1), (1, .iload_n 1, 1), (2, .iload_n 2, 1), (3, .invokevirtual 196, 3), (6, .istore_n 3, 1), (7, .iload_n 3, 1), (8, .ifCond .eq 5, 3), (11, .iload_n 3, 1), (12, .ireturn, 1), (13, .aload_n 0, 1), (14, .getfield 25, 3), (17, .aload_n 0, 1), (18, .getfield 12, 3), (21, .invokevirtual 162, 3), (24, .aload_n 0, 1), (25, .getfield 12, 3), (28, .invokevirtual 152, 3), (31, .lstore 4, 2), (33, .iconst 0, 1), (34, .istore 6, 2), (36, .iload 6, 2), (38, .bipush 20, 2), (40, .if_icmp .gt 65, 3), (43, .aload_n 0, 1), (44, .getfield 25, 3), (47, .aload_n 0, 1), (48, .getfield 12, 3), (51, .getfield 132, 3), (54, .iload 6, 2), (56, .invokevirtual 215, 3), (59, .aload_n 0, 1), (60, .getfield 25, 3)]
theorem dX10_needs_0 : ∀ q ∈ tX10_needs_0, decode cX10_needs q.1 = .ok q.2 := by decide +kernel
def tX10_needs_1 : List (Nat × Instr × Nat) := [(63, .lload 4, 2), (65, .invokevirtual 211, 3), (68, .aload_n 0, 1), (69, .getfield 25, 3), (72, .aload_n 0, 1), (73, .getfield 12, 3), (76, .getfield 119, 3), (79, .aload_n 0, 1), (80, .getfield 12, 3), (83, .getfield 122, 3), (86, .iload_n 1, 1), (87, .iload_n 2, 1), (88, .invokevirtual 199, 3), (91, .bipush (-4), 2), (93, .if_icmp .eq 6, 3), (96, .iload 6, 2), (98, .ireturn, 1), (99, .iinc 6 1, 3), (102, .goto (-66), 3), (105, .bipush (-4), 2), (107, .ireturn, 1)]
theorem dX10_needs_1 : ∀ q ∈ tX10_needs_1, decode cX10_needs q.1 = .ok q.2 := by decide +kernel
def tX10_within_0 : List (Nat × Instr × Nat) := [(0, .iload_n 1, 1), (1, .ifCond .lt 9, 3), (4, .iload_n 1, 1), (5, .bipush 40, 2), (7, .if_icmp .le 5, 3), (10, .iconst (-1), 1), (11, .ireturn, 1), (12, .aload_n 0, 1), (13, .getfield 12, 3), (16, .invokevirtual 218, 3), (19, .ifCond .ne 6, 3), (22, .bipush (-3), 2), (24, .ireturn, 1), (25, .aload_n 0, 1), (26, .getfield 25, 3), (29, .aload_n 0, 1), (30, .getfield 12, 3), (33, .invokevirtual 162, 3), (36, .aload_n 0, 1), (37, .getfield 25, 3), (40, .aload_n 0, 1), (41, .getfield 12, 3), (44, .getfield 119, 3), (47, .aload_n 0, 1), (48, .getfield 12, 3), (51, .getfield 122, 3), (54, .iload_n 1, 1), (55, .invokevirtual 222, 3), (58, .ireturn, 1)]
theorem dX10_within_0 : ∀ q ∈ tX10_within_0, decode cX10_within q.1 = .ok q.2 := by decide +kernel
def tX10_ways_0 : List (Nat × Instr × Nat) := [(0, .aload_n 0, 1), (1, .iload_n 1, 1), (2, .invokevirtual 225, 3), (5, .istore_n 2, 1), (6, .iload_n 2, 1), (7, .ifCond .eq 8, 3), (10, .iload_n 2, 1), (11, .invokestatic 228, 3), (14, .lreturn, 1), (15, .aload_n 0, 1), (16, .getfield 25, 3), (19, .aload_n 0, 1), (20, .getfield 12, 3), (23, .invokevirtual 162, 3), (26, .aload_n 0, 1), (27, .getfield 25, 3), (30, .aload_n 0, 1), (31, .getfield 12, 3), (34, .getfield 119, 3), (37, .aload_n 0, 1), (38, .getfield 12, 3), (41, .getfield 122, 3), (44, .iload_n 1, 1), (45, .invokevirtual 231, 3), (48, .aload_n 0, 1), (49, .getfield 25, 3), (52, .invokevirtual 234, 3), (55, .lreturn, 1)]
theorem dX10_ways_0 : ∀ q ∈ tX10_ways_0, decode cX10_ways q.1 = .ok q.2 := by decide +kernel
def tX10_rounds_0 : List (Nat × Instr × Nat) := [(0, .aload_n 0, 1), (1, .iload_n 1, 1), (2, .invokevirtual 225, 3), (5, .istore_n 2, 1), (6, .iload_n 2, 1), (7, .ifCond .eq 8, 3), (10, .iload_n 2, 1), (11, .invokestatic 228, 3), (14, .lreturn, 1), (15, .aload_n 0, 1), (16, .getfield 25, 3), (19, .aload_n 0, 1), (20, .getfield 12, 3), (23, .invokevirtual 162, 3), (26, .aload_n 0, 1), (27, .getfield 25, 3), (30, .aload_n 0, 1), (31, .getfield 12, 3), (34, .getfield 119, 3), (37, .aload_n 0, 1), (38, .getfield 12, 3), (41, .getfield 122, 3), (44, .iload_n 1, 1), (45, .invokevirtual 231, 3), (48, .aload_n 0, 1), (49, .getfield 25, 3), (52, .aload_n 0, 1), (53, .getfield 12, 3), (56, .getfield 119, 3), (59, .aload_n 0, 1), (60, .getfield 12, 3), (63, .getfield 122, 3)]
theorem dX10_rounds_0 : ∀ q ∈ tX10_rounds_0, decode cX10_rounds q.1 = .ok q.2 := by decide +kernel
def tX10_rounds_1 : List (Nat × Instr × Nat) := [(66, .invokevirtual 237, 3), (69, .lreturn, 1)]
theorem dX10_rounds_1 : ∀ q ∈ tX10_rounds_1, decode cX10_rounds q.1 = .ok q.2 := by decide +kernel
def tX10_late_0 : List (Nat × Instr × Nat) := [(0, .iload_n 1, 1), (1, .i2l, 1), (2, .invokestatic 83, 3), (5, .ifCond .eq 13, 3), (8, .iload_n 2, 1), (9, .ifCond .lt 9, 3), (12, .iload_n 2, 1), (13, .bipush 8, 2), (15, .if_icmp .le 5, 3), (18, .iconst (-1), 1), (19, .ireturn, 1), (20, .aload_n 0, 1), (21, .getfield 12, 3), (24, .getfield 119, 3), (27, .bipush (-4), 2), (29, .if_icmp .eq 14, 3), (32, .aload_n 0, 1), (33, .getfield 12, 3), (36, .iload_n 1, 1), (37, .invokevirtual 96, 3), (40, .ifCond .ne 6, 3), (43, .bipush (-3), 2), (45, .ireturn, 1), (46, .aload_n 0, 1), (47, .getfield 25, 3), (50, .aload_n 0, 1), (51, .getfield 12, 3), (54, .invokevirtual 162, 3), (57, .iload_n 1, 1), (58, .iload_n 2, 1), (59, .iconst 1, 1), (60, .iadd, 1)]
theorem dX10_late_0 : ∀ q ∈ tX10_late_0, decode cX10_late q.1 = .ok q.2 := by decide +kernel
def tX10_late_1 : List (Nat × Instr × Nat) := [(61, .aload_n 0, 1), (62, .getfield 12, 3), (65, .invokevirtual 152, 3), (68, .invokestatic 241, 3), (71, .lstore_n 3, 1), (72, .iconst 0, 1), (73, .istore 5, 2), (75, .iconst 0, 1), (76, .istore 6, 2), (78, .iload 6, 2), (80, .iconst 5, 1), (81, .if_icmp .ge 63, 3), (84, .aload_n 0, 1), (85, .getfield 12, 3), (88, .aload_n 0, 1), (89, .getfield 12, 3), (92, .getfield 119, 3), (95, .iload 6, 2), (97, .invokevirtual 245, 3), (100, .istore 7, 2), (102, .iload 7, 2), (104, .bipush (-4), 2), (106, .if_icmp .eq 32, 3), (109, .lload_n 3, 1), (110, .aload_n 0, 1), (111, .getfield 25, 3), (114, .iload 7, 2), (116, .invokevirtual 248, 3), (119, .ldc2_w 251, 3), (122, .lxor, 1), (123, .land, 1), (124, .lconst 0, 1)]
theorem dX10_late_1 : ∀ q ∈ tX10_late_1, decode cX10_late q.1 = .ok q.2 := by decide +kernel
def tX10_late_2 : List (Nat × Instr × Nat) := [(125, .lcmp, 1), (126, .ifCond .ne 12, 3), (129, .iload 5, 2), (131, .iconst 1, 1), (132, .iload 6, 2), (134, .ishl, 1), (135, .ior, 1), (136, .istore 5, 2), (138, .iinc 6 1, 3), (141, .goto (-63), 3), (144, .iload 5, 2), (146, .ireturn, 1)]
theorem dX10_late_2 : ∀ q ∈ tX10_late_2, decode cX10_late q.1 = .ok q.2 := by decide +kernel
def tX10_hisWay_0 : List (Nat × Instr × Nat) := [(0, .iload_n 2, 1), (1, .invokestatic 116, 3), (4, .ifCond .eq 11, 3), (7, .aload_n 0, 1), (8, .iload_n 1, 1), (9, .invokevirtual 253, 3), (12, .goto 4, 3), (15, .iconst (-1), 1), (16, .istore_n 3, 1), (17, .iload_n 3, 1), (18, .ifCond .eq 8, 3), (21, .iload_n 3, 1), (22, .invokestatic 228, 3), (25, .lreturn, 1), (26, .aload_n 0, 1), (27, .getfield 25, 3), (30, .aload_n 0, 1), (31, .getfield 12, 3), (34, .invokevirtual 162, 3), (37, .aload_n 0, 1), (38, .getfield 32, 3), (41, .aload_n 0, 1), (42, .iload_n 1, 1), (43, .invokevirtual 58, 3), (46, .aload_n 0, 1), (47, .getfield 25, 3), (50, .aload_n 0, 1), (51, .getfield 12, 3), (54, .invokevirtual 152, 3), (57, .invokevirtual 256, 3), (60, .lstore 4, 2), (62, .iload_n 2, 1)]
theorem dX10_hisWay_0 : ∀ q ∈ tX10_hisWay_0, decode cX10_hisWay q.1 = .ok q.2 := by decide +kernel
def tX10_hisWay_1 : List (Nat × Instr × Nat) := [(63, .ifCond .ne 8, 3), (66, .lload 4, 2), (68, .goto 9, 3), (71, .lload 4, 2), (73, .invokestatic 184, 3), (76, .i2l, 1), (77, .lreturn, 1)]
theorem dX10_hisWay_1 : ∀ q ∈ tX10_hisWay_1, decode cX10_hisWay q.1 = .ok q.2 := by decide +kernel
def tX10_letter_0 : List (Nat × Instr × Nat) := [(0, .aload_n 0, 1), (1, .iload_n 1, 1), (2, .invokevirtual 253, 3), (5, .istore_n 2, 1), (6, .iload_n 2, 1), (7, .ifCond .eq 5, 3), (10, .iload_n 2, 1), (11, .ireturn, 1), (12, .aload_n 0, 1), (13, .getfield 25, 3), (16, .aload_n 0, 1), (17, .getfield 12, 3), (20, .invokevirtual 162, 3), (23, .aload_n 0, 1), (24, .getfield 32, 3), (27, .aload_n 0, 1), (28, .iload_n 1, 1), (29, .invokevirtual 58, 3), (32, .aload_n 0, 1), (33, .getfield 25, 3), (36, .aload_n 0, 1), (37, .getfield 12, 3), (40, .invokevirtual 152, 3), (43, .invokevirtual 256, 3), (46, .lstore_n 3, 1), (47, .lload_n 3, 1), (48, .lconst 0, 1), (49, .lcmp, 1), (50, .ifCond .ne 8, 3), (53, .bipush (-4), 2), (55, .goto 26, 3), (58, .aload_n 0, 1)]
theorem dX10_letter_0 : ∀ q ∈ tX10_letter_0, decode cX10_letter q.1 = .ok q.2 := by decide +kernel
def tX10_letter_1 : List (Nat × Instr × Nat) := [(59, .getfield 32, 3), (62, .aload_n 0, 1), (63, .iload_n 1, 1), (64, .invokevirtual 58, 3), (67, .aload_n 0, 1), (68, .getfield 25, 3), (71, .aload_n 0, 1), (72, .getfield 12, 3), (75, .invokevirtual 152, 3), (78, .invokevirtual 260, 3), (81, .ireturn, 1)]
theorem dX10_letter_1 : ∀ q ∈ tX10_letter_1, decode cX10_letter q.1 = .ok q.2 := by decide +kernel
def tX10_third_0 : List (Nat × Instr × Nat) := [(0, .iload_n 1, 1), (1, .invokestatic 116, 3), (4, .ifCond .ne 5, 3), (7, .iconst (-1), 1), (8, .ireturn, 1), (9, .aload_n 0, 1), (10, .getfield 12, 3), (13, .invokevirtual 218, 3), (16, .ifCond .ne 6, 3), (19, .bipush (-3), 2), (21, .ireturn, 1), (22, .aload_n 0, 1), (23, .getfield 25, 3), (26, .aload_n 0, 1), (27, .getfield 12, 3), (30, .invokevirtual 162, 3), (33, .aload_n 0, 1), (34, .getfield 25, 3), (37, .aload_n 0, 1), (38, .getfield 12, 3), (41, .getfield 119, 3), (44, .invokevirtual 248, 3), (47, .aload_n 0, 1), (48, .getfield 25, 3), (51, .aload_n 0, 1), (52, .getfield 12, 3), (55, .getfield 122, 3), (58, .invokevirtual 248, 3), (61, .land, 1), (62, .aload_n 0, 1), (63, .getfield 12, 3), (66, .invokevirtual 152, 3)]
theorem dX10_third_0 : ∀ q ∈ tX10_third_0, decode cX10_third q.1 = .ok q.2 := by decide +kernel
def tX10_third_1 : List (Nat × Instr × Nat) := [(69, .land, 1), (70, .lstore_n 2, 1), (71, .iload_n 1, 1), (72, .ifCond .ne 10, 3), (75, .lload_n 2, 1), (76, .invokestatic 184, 3), (79, .goto 7, 3), (82, .lload_n 2, 1), (83, .invokestatic 264, 3), (86, .ireturn, 1)]
theorem dX10_third_1 : ∀ q ∈ tX10_third_1, decode cX10_third q.1 = .ok q.2 := by decide +kernel
def tX10_game_0 : List (Nat × Instr × Nat) := [(0, .iload_n 1, 1), (1, .invokestatic 116, 3), (4, .ifCond .ne 5, 3), (7, .iconst (-1), 1), (8, .ireturn, 1), (9, .aload_n 0, 1), (10, .getfield 12, 3), (13, .invokevirtual 218, 3), (16, .ifCond .ne 6, 3), (19, .bipush (-3), 2), (21, .ireturn, 1), (22, .aload_n 0, 1), (23, .getfield 39, 3), (26, .aload_n 0, 1), (27, .getfield 12, 3), (30, .invokevirtual 267, 3), (33, .iload_n 1, 1), (34, .ifCond .ne 13, 3), (37, .aload_n 0, 1), (38, .getfield 39, 3), (41, .invokevirtual 268, 3), (44, .goto 10, 3), (47, .aload_n 0, 1), (48, .getfield 39, 3), (51, .invokevirtual 271, 3), (54, .ireturn, 1)]
theorem dX10_game_0 : ∀ q ∈ tX10_game_0, decode cX10_game q.1 = .ok q.2 := by decide +kernel
def tX10_snow_0 : List (Nat × Instr × Nat) := [(0, .iload_n 1, 1), (1, .i2l, 1), (2, .invokestatic 83, 3), (5, .ifCond .eq 18, 3), (8, .iload_n 2, 1), (9, .i2l, 1), (10, .invokestatic 83, 3), (13, .ifCond .eq 10, 3), (16, .iload_n 3, 1), (17, .invokestatic 116, 3), (20, .ifCond .ne 8, 3), (23, .iconst (-1), 1), (24, .invokestatic 228, 3), (27, .lreturn, 1), (28, .aload_n 0, 1), (29, .getfield 12, 3), (32, .invokevirtual 274, 3), (35, .invokestatic 184, 3), (38, .istore 4, 2), (40, .iload 4, 2), (42, .bipush 8, 2), (44, .if_icmp .le 9, 3), (47, .bipush (-3), 2), (49, .invokestatic 228, 3), (52, .lreturn, 1), (53, .lconst 1, 1), (54, .lstore 5, 2), (56, .iconst 0, 1), (57, .istore 7, 2), (59, .iload 7, 2), (61, .iload 4, 2), (63, .if_icmp .ge 17, 3)]
theorem dX10_snow_0 : ∀ q ∈ tX10_snow_0, decode cX10_snow q.1 = .ok q.2 := by decide +kernel
def tX10_snow_1 : List (Nat × Instr × Nat) := [(66, .lload 5, 2), (68, .ldc2_w 281, 3), (71, .lmul, 1), (72, .lstore 5, 2), (74, .iinc 7 1, 3), (77, .goto (-18), 3), (80, .aload_n 0, 1), (81, .getfield 12, 3), (84, .iload_n 1, 1), (85, .iload_n 2, 1), (86, .invokestatic 283, 3), (89, .lload 5, 2), (91, .iload_n 3, 1), (92, .invokestatic 287, 3), (95, .lreturn, 1)]
theorem dX10_snow_1 : ∀ q ∈ tX10_snow_1, decode cX10_snow q.1 = .ok q.2 := by decide +kernel
def tX10_mean_0 : List (Nat × Instr × Nat) := [(0, .iload_n 1, 1), (1, .invokestatic 116, 3), (4, .ifCond .ne 8, 3), (7, .iconst (-1), 1), (8, .invokestatic 228, 3), (11, .lreturn, 1), (12, .aload_n 0, 1), (13, .getfield 25, 3), (16, .aload_n 0, 1), (17, .getfield 12, 3), (20, .invokevirtual 162, 3), (23, .aload_n 0, 1), (24, .getfield 25, 3), (27, .invokevirtual 293, 3), (30, .aload_n 0, 1), (31, .getfield 25, 3), (34, .invokevirtual 165, 3), (37, .i2l, 1), (38, .iload_n 1, 1), (39, .invokestatic 287, 3), (42, .lreturn, 1)]
theorem dX10_mean_0 : ∀ q ∈ tX10_mean_0, decode cX10_mean q.1 = .ok q.2 := by decide +kernel
def tX10_curve_0 : List (Nat × Instr × Nat) := [(0, .iload_n 1, 1), (1, .invokestatic 129, 3), (4, .ifCond .ne 5, 3), (7, .iconst (-1), 1), (8, .ireturn, 1), (9, .aload_n 0, 1), (10, .getfield 25, 3), (13, .aload_n 0, 1), (14, .getfield 12, 3), (17, .invokevirtual 162, 3), (20, .aload_n 0, 1), (21, .getfield 25, 3), (24, .aload_n 0, 1), (25, .getfield 12, 3), (28, .getfield 132, 3), (31, .iload_n 1, 1), (32, .invokevirtual 215, 3), (35, .aload_n 0, 1), (36, .getfield 25, 3), (39, .aload_n 0, 1), (40, .getfield 12, 3), (43, .invokevirtual 152, 3), (46, .invokevirtual 211, 3), (49, .aload_n 0, 1), (50, .getfield 25, 3), (53, .invokevirtual 165, 3), (56, .ireturn, 1)]
theorem dX10_curve_0 : ∀ q ∈ tX10_curve_0, decode cX10_curve q.1 = .ok q.2 := by decide +kernel
def tX10_judge_0 : List (Nat × Instr × Nat) := [(0, .iload_n 1, 1), (1, .invokestatic 296, 3), (4, .ifCond .ne 5, 3), (7, .iconst (-1), 1), (8, .ireturn, 1), (9, .aload_n 0, 1), (10, .getfield 12, 3), (13, .getfield 119, 3), (16, .bipush (-4), 2), (18, .if_icmp .ne 6, 3), (21, .bipush (-3), 2), (23, .ireturn, 1), (24, .aload_n 0, 1), (25, .iload_n 1, 1), (26, .invokevirtual 54, 3), (29, .istore_n 2, 1), (30, .iload_n 2, 1), (31, .ifCond .eq 7, 3), (34, .iload_n 2, 1), (35, .goto 15, 3), (38, .aload_n 0, 1), (39, .iload_n 1, 1), (40, .invokevirtual 58, 3), (43, .aload_n 0, 1), (44, .getfield 12, 3), (47, .invokestatic 299, 3), (50, .ireturn, 1)]
theorem dX10_judge_0 : ∀ q ∈ tX10_judge_0, decode cX10_judge q.1 = .ok q.2 := by decide +kernel
def tX10_seeds_0 : List (Nat × Instr × Nat) := [(0, .iload_n 1, 1), (1, .iconst 1, 1), (2, .if_icmp .lt 16, 3), (5, .iload_n 1, 1), (6, .bipush 20, 2), (8, .if_icmp .gt 10, 3), (11, .iload_n 3, 1), (12, .invokestatic 116, 3), (15, .ifCond .ne 5, 3), (18, .iconst (-1), 1), (19, .ireturn, 1), (20, .aload_n 0, 1), (21, .getfield 12, 3), (24, .invokevirtual 218, 3), (27, .ifCond .ne 6, 3), (30, .bipush (-3), 2), (32, .ireturn, 1), (33, .aload_n 0, 1), (34, .getfield 19, 3), (37, .aload_n 0, 1), (38, .getfield 12, 3), (41, .invokevirtual 72, 3), (44, .aload_n 0, 1), (45, .getfield 19, 3), (48, .iconst 0, 1), (49, .putfield 302, 3), (52, .aload_n 0, 1), (53, .getfield 19, 3), (56, .iconst 0, 1), (57, .putfield 305, 3), (60, .iload_n 2, 1), (61, .istore 4, 2)]
theorem dX10_seeds_0 : ∀ q ∈ tX10_seeds_0, decode cX10_seeds q.1 = .ok q.2 := by decide +kernel
def tX10_seeds_1 : List (Nat × Instr × Nat) := [(63, .iconst 0, 1), (64, .istore 5, 2), (66, .iload 5, 2), (68, .iload_n 1, 1), (69, .if_icmp .ge 120, 3), (72, .aload_n 0, 1), (73, .getfield 19, 3), (76, .aload_n 0, 1), (77, .getfield 12, 3), (80, .getfield 119, 3), (83, .putfield 119, 3), (86, .aload_n 0, 1), (87, .getfield 19, 3), (90, .aload_n 0, 1), (91, .getfield 12, 3), (94, .getfield 122, 3), (97, .putfield 122, 3), (100, .iconst 0, 1), (101, .istore 6, 2), (103, .iload 6, 2), (105, .bipush 20, 2), (107, .if_icmp .ge 76, 3), (110, .iload 4, 2), (112, .invokestatic 308, 3), (115, .istore 4, 2), (117, .aload_n 0, 1), (118, .getfield 19, 3), (121, .aload_n 0, 1), (122, .getfield 19, 3), (125, .getfield 119, 3), (128, .iload 4, 2), (130, .invokestatic 311, 3)]
theorem dX10_seeds_1 : ∀ q ∈ tX10_seeds_1, decode cX10_seeds q.1 = .ok q.2 := by decide +kernel
def tX10_seeds_2 : List (Nat × Instr × Nat) := [(133, .invokevirtual 314, 3), (136, .istore 7, 2), (138, .iload 4, 2), (140, .invokestatic 308, 3), (143, .istore 4, 2), (145, .aload_n 0, 1), (146, .getfield 19, 3), (149, .aload_n 0, 1), (150, .getfield 19, 3), (153, .getfield 122, 3), (156, .iload 4, 2), (158, .invokestatic 311, 3), (161, .invokevirtual 314, 3), (164, .istore 8, 2), (166, .aload_n 0, 1), (167, .getfield 19, 3), (170, .iload 7, 2), (172, .iload 8, 2), (174, .invokevirtual 317, 3), (177, .iinc 6 1, 3), (180, .goto (-77), 3), (183, .iinc 5 1, 3), (186, .goto (-120), 3), (189, .iload_n 3, 1), (190, .ifCond .ne 13, 3), (193, .aload_n 0, 1), (194, .getfield 19, 3), (197, .getfield 302, 3), (200, .goto 10, 3), (203, .aload_n 0, 1), (204, .getfield 19, 3), (207, .getfield 305, 3)]
theorem dX10_seeds_2 : ∀ q ∈ tX10_seeds_2, decode cX10_seeds q.1 = .ok q.2 := by decide +kernel
def tX10_seeds_3 : List (Nat × Instr × Nat) := [(210, .ireturn, 1)]
theorem dX10_seeds_3 : ∀ q ∈ tX10_seeds_3, decode cX10_seeds q.1 = .ok q.2 := by decide +kernel
def tX10_image_0 : List (Nat × Instr × Nat) := [(0, .aload_n 0, 1), (1, .getfield 16, 3), (4, .aload_n 0, 1), (5, .getfield 12, 3), (8, .invokevirtual 72, 3), (11, .aload_n 0, 1), (12, .iconst 1, 1), (13, .putfield 320, 3), (16, .aload_n 0, 1), (17, .getfield 12, 3), (20, .getfield 324, 3), (23, .ireturn, 1)]
theorem dX10_image_0 : ∀ q ∈ tX10_image_0, decode cX10_image q.1 = .ok q.2 := by decide +kernel
def tX10_restore_0 : List (Nat × Instr × Nat) := [(0, .aload_n 0, 1), (1, .getfield 320, 3), (4, .ifCond .ne 6, 3), (7, .bipush (-3), 2), (9, .ireturn, 1), (10, .aload_n 0, 1), (11, .getfield 12, 3), (14, .aload_n 0, 1), (15, .getfield 16, 3), (18, .invokevirtual 72, 3), (21, .aload_n 0, 1), (22, .getfield 12, 3), (25, .getfield 324, 3), (28, .ireturn, 1)]
theorem dX10_restore_0 : ∀ q ∈ tX10_restore_0, decode cX10_restore q.1 = .ok q.2 := by decide +kernel
def tX10_count_0 : List (Nat × Instr × Nat) := [(0, .iload_n 1, 1), (1, .tableswitch 126 0 8 #[51, 59, 67, 75, 83, 91, 99, 107, 115], 51), (52, .aload_n 0, 1), (53, .getfield 12, 3), (56, .getfield 119, 3), (59, .ireturn, 1), (60, .aload_n 0, 1), (61, .getfield 12, 3), (64, .getfield 122, 3), (67, .ireturn, 1), (68, .aload_n 0, 1), (69, .getfield 12, 3), (72, .getfield 324, 3), (75, .ireturn, 1), (76, .aload_n 0, 1), (77, .getfield 12, 3), (80, .getfield 302, 3), (83, .ireturn, 1), (84, .aload_n 0, 1), (85, .getfield 12, 3), (88, .getfield 305, 3), (91, .ireturn, 1), (92, .aload_n 0, 1), (93, .getfield 12, 3), (96, .getfield 132, 3), (99, .ireturn, 1), (100, .aload_n 0, 1), (101, .getfield 12, 3), (104, .getfield 135, 3), (107, .ireturn, 1), (108, .aload_n 0, 1), (109, .getfield 12, 3)]
theorem dX10_count_0 : ∀ q ∈ tX10_count_0, decode cX10_count q.1 = .ok q.2 := by decide +kernel
def tX10_count_1 : List (Nat × Instr × Nat) := [(112, .getfield 138, 3), (115, .ireturn, 1), (116, .aload_n 0, 1), (117, .getfield 12, 3), (120, .invokevirtual 152, 3), (123, .invokestatic 184, 3), (126, .ireturn, 1), (127, .iconst (-1), 1), (128, .ireturn, 1)]
theorem dX10_count_1 : ∀ q ∈ tX10_count_1, decode cX10_count q.1 = .ok q.2 := by decide +kernel
def tX10_keep_0 : List (Nat × Instr × Nat) := [(0, .iload_n 1, 1), (1, .invokestatic 296, 3), (4, .ifCond .eq 10, 3), (7, .iload_n 2, 1), (8, .invokestatic 116, 3), (11, .ifCond .ne 5, 3), (14, .iconst (-1), 1), (15, .ireturn, 1), (16, .iload_n 2, 1), (17, .ifCond .ne 14, 3), (20, .aload_n 0, 1), (21, .iload_n 1, 1), (22, .invokevirtual 58, 3), (25, .iconst 0, 1), (26, .putfield 327, 3), (29, .iconst 0, 1), (30, .ireturn, 1), (31, .iload_n 3, 1), (32, .invokestatic 330, 3), (35, .ifCond .eq 15, 3), (38, .iload 4, 2), (40, .ifCond .lt 10, 3), (43, .iload 4, 2), (45, .bipush 9, 2), (47, .if_icmp .le 5, 3), (50, .iconst (-1), 1), (51, .ireturn, 1), (52, .aload_n 0, 1), (53, .iload_n 1, 1), (54, .invokevirtual 58, 3), (57, .iload_n 3, 1), (58, .iload 4, 2)]
theorem dX10_keep_0 : ∀ q ∈ tX10_keep_0, decode cX10_keep q.1 = .ok q.2 := by decide +kernel
def tX10_keep_1 : List (Nat × Instr × Nat) := [(60, .invokevirtual 333, 3), (63, .iconst 0, 1), (64, .ireturn, 1)]
theorem dX10_keep_1 : ∀ q ∈ tX10_keep_1, decode cX10_keep q.1 = .ok q.2 := by decide +kernel
def tX10_row_0 : List (Nat × Instr × Nat) := [(0, .iload_n 1, 1), (1, .invokestatic 296, 3), (4, .ifCond .eq 18, 3), (7, .iload_n 2, 1), (8, .ifCond .lt 14, 3), (11, .iload_n 2, 1), (12, .iconst 2, 1), (13, .if_icmp .gt 9, 3), (16, .iload_n 3, 1), (17, .bipush 100, 2), (19, .if_icmp .le 5, 3), (22, .iconst (-1), 1), (23, .ireturn, 1), (24, .iload_n 3, 1), (25, .ifCond .ge 6, 3), (28, .bipush (-14), 2), (30, .ireturn, 1), (31, .aload_n 0, 1), (32, .iload_n 1, 1), (33, .invokevirtual 58, 3), (36, .iload_n 2, 1), (37, .iload_n 3, 1), (38, .invokevirtual 336, 3), (41, .iconst 0, 1), (42, .ireturn, 1)]
theorem dX10_row_0 : ∀ q ∈ tX10_row_0, decode cX10_row q.1 = .ok q.2 := by decide +kernel
def tX10_put_0 : List (Nat × Instr × Nat) := [(0, .aload_n 0, 1), (1, .iload_n 1, 1), (2, .invokevirtual 54, 3), (5, .istore 4, 2), (7, .iload 4, 2), (9, .ifCond .eq 6, 3), (12, .iload 4, 2), (14, .ireturn, 1), (15, .aload_n 0, 1), (16, .iload_n 1, 1), (17, .invokevirtual 58, 3), (20, .iload_n 2, 1), (21, .invokevirtual 339, 3), (24, .ifCond .ne 6, 3), (27, .bipush (-13), 2), (29, .ireturn, 1), (30, .aload_n 0, 1), (31, .iload_n 1, 1), (32, .invokevirtual 58, 3), (35, .iload_n 2, 1), (36, .iload_n 3, 1), (37, .invokevirtual 342, 3), (40, .iconst 0, 1), (41, .ireturn, 1)]
theorem dX10_put_0 : ∀ q ∈ tX10_put_0, decode cX10_put q.1 = .ok q.2 := by decide +kernel
def tX10_element_0 : List (Nat × Instr × Nat) := [(0, .iload_n 1, 1), (1, .invokestatic 296, 3), (4, .ifCond .ne 14, 3), (7, .new 345, 3), (10, .dup, 1), (11, .ldc_w 347, 3), (14, .invokespecial 349, 3), (17, .athrow, 1), (18, .aload_n 0, 1), (19, .iload_n 1, 1), (20, .invokevirtual 58, 3), (23, .getfield 327, 3), (26, .iconst 2, 1), (27, .if_icmp .eq 14, 3), (30, .new 352, 3), (33, .dup, 1), (34, .ldc_w 354, 3), (37, .invokespecial 356, 3), (40, .athrow, 1), (41, .aload_n 0, 1), (42, .iload_n 1, 1), (43, .invokevirtual 58, 3), (46, .iload_n 2, 1), (47, .invokevirtual 339, 3), (50, .ifCond .ne 14, 3), (53, .new 352, 3), (56, .dup, 1), (57, .ldc_w 357, 3), (60, .invokespecial 356, 3), (63, .athrow, 1), (64, .aload_n 0, 1), (65, .iload_n 1, 1)]
theorem dX10_element_0 : ∀ q ∈ tX10_element_0, decode cX10_element q.1 = .ok q.2 := by decide +kernel
def tX10_element_1 : List (Nat × Instr × Nat) := [(66, .invokevirtual 58, 3), (69, .iload_n 2, 1), (70, .invokevirtual 359, 3), (73, .lreturn, 1)]
theorem dX10_element_1 : ∀ q ∈ tX10_element_1, decode cX10_element q.1 = .ok q.2 := by decide +kernel
def tX10_copy_0 : List (Nat × Instr × Nat) := [(0, .iload_n 1, 1), (1, .invokestatic 296, 3), (4, .ifCond .eq 10, 3), (7, .iload_n 3, 1), (8, .invokestatic 296, 3), (11, .ifCond .ne 5, 3), (14, .iconst (-1), 1), (15, .ireturn, 1), (16, .aload_n 0, 1), (17, .iload_n 1, 1), (18, .invokevirtual 58, 3), (21, .astore 6, 2), (23, .aload_n 0, 1), (24, .iload_n 3, 1), (25, .invokevirtual 58, 3), (28, .astore 7, 2), (30, .aload 6, 2), (32, .getfield 327, 3), (35, .ifCond .eq 11, 3), (38, .aload 7, 2), (40, .getfield 327, 3), (43, .ifCond .ne 6, 3), (46, .bipush (-11), 2), (48, .ireturn, 1), (49, .aload 6, 2), (51, .getfield 327, 3), (54, .iconst 2, 1), (55, .if_icmp .ne 25, 3), (58, .aload 7, 2), (60, .getfield 327, 3), (63, .iconst 2, 1), (64, .if_icmp .ne 16, 3)]
theorem dX10_copy_0 : ∀ q ∈ tX10_copy_0, decode cX10_copy q.1 = .ok q.2 := by decide +kernel
def tX10_copy_1 : List (Nat × Instr × Nat) := [(67, .aload 6, 2), (69, .getfield 62, 3), (72, .aload 7, 2), (74, .getfield 62, 3), (77, .if_icmp .eq 6, 3), (80, .bipush (-12), 2), (82, .ireturn, 1), (83, .aload 6, 2), (85, .iload_n 2, 1), (86, .iload 5, 2), (88, .invokevirtual 362, 3), (91, .ifCond .eq 15, 3), (94, .aload 7, 2), (96, .iload 4, 2), (98, .iload 5, 2), (100, .invokevirtual 362, 3), (103, .ifCond .ne 6, 3), (106, .bipush (-13), 2), (108, .ireturn, 1), (109, .aload 6, 2), (111, .getfield 365, 3), (114, .iload_n 2, 1), (115, .aload 7, 2), (117, .getfield 365, 3), (120, .iload 4, 2), (122, .iload 5, 2), (124, .invokestatic 369, 3), (127, .iload 5, 2), (129, .ireturn, 1)]
theorem dX10_copy_1 : ∀ q ∈ tX10_copy_1, decode cX10_copy q.1 = .ok q.2 := by decide +kernel
def tX10_cost_0 : List (Nat × Instr × Nat) := [(0, .aload_n 0, 1), (1, .iload_n 1, 1), (2, .invokevirtual 103, 3), (5, .istore_n 2, 1), (6, .iload_n 2, 1), (7, .ifCond .eq 7, 3), (10, .iload_n 2, 1), (11, .goto 22, 3), (14, .aload_n 0, 1), (15, .iload_n 1, 1), (16, .invokevirtual 58, 3), (19, .getfield 106, 3), (22, .aload_n 0, 1), (23, .iload_n 1, 1), (24, .invokevirtual 58, 3), (27, .getfield 109, 3), (30, .invokestatic 375, 3), (33, .ireturn, 1)]
theorem dX10_cost_0 : ∀ q ∈ tX10_cost_0, decode cX10_cost q.1 = .ok q.2 := by decide +kernel
def tX10_toss_0 : List (Nat × Instr × Nat) := [(0, .aload_n 0, 1), (1, .iload_n 1, 1), (2, .invokevirtual 103, 3), (5, .istore_n 2, 1), (6, .iload_n 2, 1), (7, .ifCond .eq 5, 3), (10, .iload_n 2, 1), (11, .ireturn, 1), (12, .aload_n 0, 1), (13, .iload_n 1, 1), (14, .invokevirtual 58, 3), (17, .getfield 106, 3), (20, .istore_n 3, 1), (21, .aload_n 0, 1), (22, .iload_n 1, 1), (23, .invokevirtual 58, 3), (26, .getfield 109, 3), (29, .istore 4, 2), (31, .iload_n 3, 1), (32, .iload 4, 2), (34, .invokestatic 378, 3), (37, .goto 29, 3), (40, .astore 5, 2), (42, .sipush 200, 3), (45, .iload_n 3, 1), (46, .iload 4, 2), (48, .invokestatic 375, 3), (51, .iadd, 1), (52, .ireturn, 1), (53, .astore 5, 2), (55, .bipush 100, 2), (57, .iload 4, 2)]
theorem dX10_toss_0 : ∀ q ∈ tX10_toss_0, decode cX10_toss q.1 = .ok q.2 := by decide +kernel
def tX10_toss_1 : List (Nat × Instr × Nat) := [(59, .iadd, 1), (60, .ireturn, 1), (61, .astore 5, 2), (63, .iload 4, 2), (65, .ireturn, 1), (66, .bipush (-15), 2), (68, .ireturn, 1)]
theorem dX10_toss_1 : ∀ q ∈ tX10_toss_1, decode cX10_toss q.1 = .ok q.2 := by decide +kernel
def tX10_isCell_0 : List (Nat × Instr × Nat) := [(0, .lload_n 0, 1), (1, .lconst 0, 1), (2, .lcmp, 1), (3, .ifCond .lt 15, 3), (6, .lload_n 0, 1), (7, .ldc2_w 383, 3), (10, .lcmp, 1), (11, .ifCond .ge 7, 3), (14, .iconst 1, 1), (15, .goto 4, 3), (18, .iconst 0, 1), (19, .ireturn, 1)]
theorem dX10_isCell_0 : ∀ q ∈ tX10_isCell_0, decode cX10_isCell q.1 = .ok q.2 := by decide +kernel
def tX10_isWay_0 : List (Nat × Instr × Nat) := [(0, .iload_n 0, 1), (1, .ifCond .lt 12, 3), (4, .iload_n 0, 1), (5, .iconst 5, 1), (6, .if_icmp .ge 7, 3), (9, .iconst 1, 1), (10, .goto 4, 3), (13, .iconst 0, 1), (14, .ireturn, 1)]
theorem dX10_isWay_0 : ∀ q ∈ tX10_isWay_0, decode cX10_isWay q.1 = .ok q.2 := by decide +kernel
def tX10_isEither_0 : List (Nat × Instr × Nat) := [(0, .iload_n 0, 1), (1, .ifCond .eq 8, 3), (4, .iload_n 0, 1), (5, .iconst 1, 1), (6, .if_icmp .ne 7, 3), (9, .iconst 1, 1), (10, .goto 4, 3), (13, .iconst 0, 1), (14, .ireturn, 1)]
theorem dX10_isEither_0 : ∀ q ∈ tX10_isEither_0, decode cX10_isEither q.1 = .ok q.2 := by decide +kernel
def tX10_isDistance_0 : List (Nat × Instr × Nat) := [(0, .iload_n 0, 1), (1, .ifCond .lt 13, 3), (4, .iload_n 0, 1), (5, .bipush 20, 2), (7, .if_icmp .gt 7, 3), (10, .iconst 1, 1), (11, .goto 4, 3), (14, .iconst 0, 1), (15, .ireturn, 1)]
theorem dX10_isDistance_0 : ∀ q ∈ tX10_isDistance_0, decode cX10_isDistance q.1 = .ok q.2 := by decide +kernel
def tX10_isShelf_0 : List (Nat × Instr × Nat) := [(0, .iload_n 0, 1), (1, .ifCond .lt 13, 3), (4, .iload_n 0, 1), (5, .bipush 8, 2), (7, .if_icmp .ge 7, 3), (10, .iconst 1, 1), (11, .goto 4, 3), (14, .iconst 0, 1), (15, .ireturn, 1)]
theorem dX10_isShelf_0 : ∀ q ∈ tX10_isShelf_0, decode cX10_isShelf q.1 = .ok q.2 := by decide +kernel
def tX10_shelfAt_0 : List (Nat × Instr × Nat) := [(0, .iload_n 1, 1), (1, .ifCond .lt 21, 3), (4, .iload_n 1, 1), (5, .aload_n 0, 1), (6, .getfield 50, 3), (9, .arraylength, 1), (10, .if_icmp .ge 12, 3), (13, .aload_n 0, 1), (14, .getfield 50, 3), (17, .iload_n 1, 1), (18, .aaload, 1), (19, .goto 7, 3), (22, .aload_n 0, 1), (23, .getfield 46, 3), (26, .areturn, 1)]
theorem dX10_shelfAt_0 : ∀ q ∈ tX10_shelfAt_0, decode cX10_shelfAt q.1 = .ok q.2 := by decide +kernel
def tX10_refusalOfRow_0 : List (Nat × Instr × Nat) := [(0, .aload_n 0, 1), (1, .iload_n 1, 1), (2, .iconst 2, 1), (3, .invokevirtual 385, 3), (6, .ireturn, 1)]
theorem dX10_refusalOfRow_0 : ∀ q ∈ tX10_refusalOfRow_0, decode cX10_refusalOfRow q.1 = .ok q.2 := by decide +kernel
def tX10_refusalOfGround_0 : List (Nat × Instr × Nat) := [(0, .aload_n 0, 1), (1, .iload_n 1, 1), (2, .iconst 1, 1), (3, .invokevirtual 385, 3), (6, .ireturn, 1)]
theorem dX10_refusalOfGround_0 : ∀ q ∈ tX10_refusalOfGround_0, decode cX10_refusalOfGround q.1 = .ok q.2 := by decide +kernel
def tX10_refusalUnless_0 : List (Nat × Instr × Nat) := [(0, .iload_n 1, 1), (1, .invokestatic 296, 3), (4, .ifCond .ne 5, 3), (7, .iconst (-1), 1), (8, .ireturn, 1), (9, .aload_n 0, 1), (10, .iload_n 1, 1), (11, .invokevirtual 58, 3), (14, .getfield 327, 3), (17, .ifCond .ne 6, 3), (20, .bipush (-11), 2), (22, .ireturn, 1), (23, .aload_n 0, 1), (24, .iload_n 1, 1), (25, .invokevirtual 58, 3), (28, .getfield 327, 3), (31, .iload_n 2, 1), (32, .if_icmp .ne 7, 3), (35, .iconst 0, 1), (36, .goto 5, 3), (39, .bipush (-12), 2), (41, .ireturn, 1)]
theorem dX10_refusalUnless_0 : ∀ q ∈ tX10_refusalUnless_0, decode cX10_refusalUnless q.1 = .ok q.2 := by decide +kernel
def tX10_refusalOfTrack_0 : List (Nat × Instr × Nat) := [(0, .aload_n 0, 1), (1, .iload_n 1, 1), (2, .invokevirtual 54, 3), (5, .istore_n 2, 1), (6, .iload_n 2, 1), (7, .ifCond .eq 5, 3), (10, .iload_n 2, 1), (11, .ireturn, 1), (12, .aload_n 0, 1), (13, .iload_n 1, 1), (14, .invokevirtual 58, 3), (17, .invokestatic 388, 3), (20, .ifCond .eq 7, 3), (23, .iconst 0, 1), (24, .goto 5, 3), (27, .bipush (-13), 2), (29, .ireturn, 1)]
theorem dX10_refusalOfTrack_0 : ∀ q ∈ tX10_refusalOfTrack_0, decode cX10_refusalOfTrack q.1 = .ok q.2 := by decide +kernel
def tX10_refusalToSee_0 : List (Nat × Instr × Nat) := [(0, .iload_n 1, 1), (1, .i2l, 1), (2, .invokestatic 83, 3), (5, .ifCond .eq 11, 3), (8, .iload_n 2, 1), (9, .i2l, 1), (10, .invokestatic 83, 3), (13, .ifCond .ne 5, 3), (16, .iconst (-1), 1), (17, .ireturn, 1), (18, .aload_n 0, 1), (19, .getfield 12, 3), (22, .invokevirtual 218, 3), (25, .ifCond .eq 7, 3), (28, .iconst 0, 1), (29, .goto 5, 3), (32, .bipush (-3), 2), (34, .ireturn, 1)]
theorem dX10_refusalToSee_0 : ∀ q ∈ tX10_refusalToSee_0, decode cX10_refusalToSee q.1 = .ok q.2 := by decide +kernel
def tX10_refusalToCount_0 : List (Nat × Instr × Nat) := [(0, .iload_n 1, 1), (1, .ifCond .lt 9, 3), (4, .iload_n 1, 1), (5, .bipush 10, 2), (7, .if_icmp .le 5, 3), (10, .iconst (-1), 1), (11, .ireturn, 1), (12, .aload_n 0, 1), (13, .getfield 12, 3), (16, .invokevirtual 218, 3), (19, .ifCond .eq 7, 3), (22, .iconst 0, 1), (23, .goto 5, 3), (26, .bipush (-3), 2), (28, .ireturn, 1)]
theorem dX10_refusalToCount_0 : ∀ q ∈ tX10_refusalToCount_0, decode cX10_refusalToCount q.1 = .ok q.2 := by decide +kernel
def tX10_ofLongs_0 : List (Nat × Instr × Nat) := [(0, .iload_n 0, 1), (1, .i2l, 1), (2, .ldc2_w 392, 3), (5, .lsub, 1), (6, .lreturn, 1)]
theorem dX10_ofLongs_0 : ∀ q ∈ tX10_ofLongs_0, decode cX10_ofLongs q.1 = .ok q.2 := by decide +kernel
def tX10_nextSeed_0 : List (Nat × Instr × Nat) := [(0, .iload_n 0, 1), (1, .ldc_w 394, 3), (4, .imul, 1), (5, .sipush 12345, 3), (8, .iadd, 1), (9, .ireturn, 1)]
theorem dX10_nextSeed_0 : ∀ q ∈ tX10_nextSeed_0, decode cX10_nextSeed q.1 = .ok q.2 := by decide +kernel
def tX10_drawOf_0 : List (Nat × Instr × Nat) := [(0, .iload_n 0, 1), (1, .ldc_w 395, 3), (4, .iand, 1), (5, .ldc_w 396, 3), (8, .idiv, 1), (9, .iconst 5, 1), (10, .irem, 1), (11, .ireturn, 1)]
theorem dX10_drawOf_0 : ∀ q ∈ tX10_drawOf_0, decode cX10_drawOf q.1 = .ok q.2 := by decide +kernel
def tX11_init_0 : List (Nat × Instr × Nat) := [(0, .aload_n 0, 1), (1, .invokespecial 1, 3), (4, .aload_n 0, 1), (5, .bipush 36, 2), (7, .newarray .int, 2), (9, .putfield 7, 3), (12, .aload_n 0, 1), (13, .bipush 36, 2), (15, .newarray .int, 2), (17, .putfield 13, 3), (20, .aload_n 0, 1), (21, .iconst 3, 1), (22, .putfield 16, 3), (25, .aload_n 0, 1), (26, .bipush 6, 2), (28, .putfield 20, 3), (31, .aload_n 0, 1), (32, .bipush (-4), 2), (34, .putfield 23, 3), (37, .aload_n 0, 1), (38, .bipush (-4), 2), (40, .putfield 26, 3), (43, .aload_n 0, 1), (44, .bipush 8, 2), (46, .newarray .int, 2), (48, .putfield 29, 3), (51, .aload_n 0, 1), (52, .bipush 8, 2), (54, .newarray .int, 2), (56, .putfield 32, 3), (59, .aload_n 0, 1), (60, .bipush 8, 2)]
theorem dX11_init_0 : ∀ q ∈ tX11_init_0, decode cX11_init q.1 = .ok q.2 := by decide +kernel
def tX11_init_1 : List (Nat × Instr × Nat) := [(62, .newarray .int, 2), (64, .putfield 35, 3), (67, .aload_n 0, 1), (68, .bipush 8, 2), (70, .newarray .int, 2), (72, .putfield 38, 3), (75, .aload_n 0, 1), (76, .bipush 8, 2), (78, .newarray .int, 2), (80, .putfield 41, 3), (83, .aload_n 0, 1), (84, .sipush 800, 3), (87, .newarray .long, 2), (89, .putfield 44, 3), (92, .aload_n 0, 1), (93, .bipush (-4), 2), (95, .putfield 48, 3), (98, .aload_n 0, 1), (99, .bipush 51, 2), (101, .newarray .int, 2), (103, .putfield 51, 3), (106, .aload_n 0, 1), (107, .bipush 51, 2), (109, .newarray .int, 2), (111, .putfield 54, 3), (114, .aload_n 0, 1), (115, .sipush 153, 3), (118, .newarray .int, 2), (120, .putfield 57, 3), (123, .aload_n 0, 1), (124, .bipush 80, 2), (126, .newarray .int, 2)]
theorem dX11_init_1 : ∀ q ∈ tX11_init_1, decode cX11_init q.1 = .ok q.2 := by decide +kernel
def tX11_init_2 : List (Nat × Instr × Nat) := [(128, .putfield 60, 3), (131, .aload_n 0, 1), (132, .bipush 80, 2), (134, .newarray .int, 2), (136, .putfield 63, 3), (139, .aload_n 0, 1), (140, .bipush 36, 2), (142, .newarray .int, 2), (144, .putfield 66, 3), (147, .aload_n 0, 1), (148, .sipush 1296, 3), (151, .newarray .int, 2), (153, .putfield 69, 3), (156, .aload_n 0, 1), (157, .sipush 1296, 3), (160, .newarray .int, 2), (162, .putfield 72, 3), (165, .aload_n 0, 1), (166, .sipush 1296, 3), (169, .newarray .long, 2), (171, .putfield 75, 3), (174, .aload_n 0, 1), (175, .sipush 1296, 3), (178, .newarray .long, 2), (180, .putfield 78, 3), (183, .aload_n 0, 1), (184, .bipush 8, 2), (186, .newarray .int, 2), (188, .putfield 81, 3), (191, .aload_n 0, 1), (192, .bipush 100, 2), (194, .newarray .long, 2)]
theorem dX11_init_2 : ∀ q ∈ tX11_init_2, decode cX11_init q.1 = .ok q.2 := by decide +kernel
def tX11_init_3 : List (Nat × Instr × Nat) := [(196, .putfield 84, 3), (199, .aload_n 0, 1), (200, .iconst 0, 1), (201, .putfield 87, 3), (204, .return_, 1)]
theorem dX11_init_3 : ∀ q ∈ tX11_init_3, decode cX11_init q.1 = .ok q.2 := by decide +kernel
def tX11_thrown_0 : List (Nat × Instr × Nat) := [(0, .aload_n 0, 1), (1, .getfield 87, 3), (4, .ireturn, 1)]
theorem dX11_thrown_0 : ∀ q ∈ tX11_thrown_0, decode cX11_thrown q.1 = .ok q.2 := by decide +kernel
def tX11_in_0 : List (Nat × Instr × Nat) := [(0, .lload_n 0, 1), (1, .lload_n 2, 1), (2, .lcmp, 1), (3, .ifCond .lt 14, 3), (6, .lload_n 0, 1), (7, .lload 4, 2), (9, .lcmp, 1), (10, .ifCond .gt 7, 3), (13, .iconst 1, 1), (14, .goto 4, 3), (17, .iconst 0, 1), (18, .ireturn, 1)]
theorem dX11_in_0 : ∀ q ∈ tX11_in_0, decode cX11_in q.1 = .ok q.2 := by decide +kernel
def tX11_isCell_0 : List (Nat × Instr × Nat) := [(0, .lload_n 0, 1), (1, .lconst 0, 1), (2, .ldc2_w 90, 3), (5, .invokestatic 92, 3), (8, .ireturn, 1)]
theorem dX11_isCell_0 : ∀ q ∈ tX11_isCell_0, decode cX11_isCell q.1 = .ok q.2 := by decide +kernel
def tX11_plainly_0 : List (Nat × Instr × Nat) := [(0, .iload_n 0, 1), (1, .ifCond .ge 8, 3), (4, .iload_n 0, 1), (5, .ineg, 1), (6, .goto 4, 3), (9, .iload_n 0, 1), (10, .ireturn, 1)]
theorem dX11_plainly_0 : ∀ q ∈ tX11_plainly_0, decode cX11_plainly q.1 = .ok q.2 := by decide +kernel
def tX11_isOn_0 : List (Nat × Instr × Nat) := [(0, .lload_n 0, 1), (1, .iload_n 2, 1), (2, .lshr, 1), (3, .lconst 1, 1), (4, .land, 1), (5, .lconst 1, 1), (6, .lcmp, 1), (7, .ifCond .ne 7, 3), (10, .iconst 1, 1), (11, .goto 4, 3), (14, .iconst 0, 1), (15, .ireturn, 1)]
theorem dX11_isOn_0 : ∀ q ∈ tX11_isOn_0, decode cX11_isOn q.1 = .ok q.2 := by decide +kernel
def tX11_onesOf_0 : List (Nat × Instr × Nat) := [(0, .iconst 0, 1), (1, .istore_n 2, 1), (2, .lload_n 0, 1), (3, .lstore_n 3, 1), (4, .lload_n 3, 1), (5, .lconst 0, 1), (6, .lcmp, 1), (7, .ifCond .eq 15, 3), (10, .iinc 2 1, 3), (13, .lload_n 3, 1), (14, .lload_n 3, 1), (15, .lconst 1, 1), (16, .lsub, 1), (17, .land, 1), (18, .lstore_n 3, 1), (19, .goto (-15), 3), (22, .iload_n 2, 1), (23, .ireturn, 1)]
theorem dX11_onesOf_0 : ∀ q ∈ tX11_onesOf_0, decode cX11_onesOf q.1 = .ok q.2 := by decide +kernel
def tX11_heightOf_0 : List (Nat × Instr × Nat) := [(0, .aload_n 0, 1), (1, .getfield 7, 3), (4, .iload_n 1, 1), (5, .iaload, 1), (6, .tableswitch 58 2 6 #[34, 36, 45, 58, 56], 34), (40, .iconst 2, 1), (41, .ireturn, 1), (42, .iconst 2, 1), (43, .aload_n 0, 1), (44, .getfield 13, 3), (47, .iload_n 1, 1), (48, .iaload, 1), (49, .iadd, 1), (50, .ireturn, 1), (51, .iconst 2, 1), (52, .aload_n 0, 1), (53, .getfield 13, 3), (56, .iload_n 1, 1), (57, .iaload, 1), (58, .iadd, 1), (59, .iconst 2, 1), (60, .idiv, 1), (61, .ireturn, 1), (62, .iconst 1, 1), (63, .ireturn, 1), (64, .iconst 0, 1), (65, .ireturn, 1)]
theorem dX11_heightOf_0 : ∀ q ∈ tX11_heightOf_0, decode cX11_heightOf q.1 = .ok q.2 := by decide +kernel
def tX11_isOpen_0 : List (Nat × Instr × Nat) := [(0, .iload_n 1, 1), (1, .aload_n 0, 1), (2, .getfield 48, 3), (5, .if_icmp .ne 5, 3), (8, .iconst 1, 1), (9, .ireturn, 1), (10, .aload_n 0, 1), (11, .getfield 7, 3), (14, .iload_n 1, 1), (15, .iaload, 1), (16, .tableswitch 78 3 5 #[28, 41, 64], 28), (44, .aload_n 0, 1), (45, .getfield 96, 3), (48, .ifCond .ne 7, 3), (51, .iconst 1, 1), (52, .goto 4, 3), (55, .iconst 0, 1), (56, .ireturn, 1), (57, .aload_n 0, 1), (58, .getfield 96, 3), (61, .ifCond .eq 13, 3), (64, .aload_n 0, 1), (65, .getfield 13, 3), (68, .iload_n 1, 1), (69, .iaload, 1), (70, .iconst 4, 1), (71, .if_icmp .gt 7, 3), (74, .iconst 1, 1), (75, .goto 4, 3), (78, .iconst 0, 1), (79, .ireturn, 1), (80, .aload_n 0, 1)]
theorem dX11_isOpen_0 : ∀ q ∈ tX11_isOpen_0, decode cX11_isOpen q.1 = .ok q.2 := by decide +kernel
def tX11_isOpen_1 : List (Nat × Instr × Nat) := [(81, .getfield 96, 3), (84, .iconst 1, 1), (85, .if_icmp .ne 7, 3), (88, .iconst 1, 1), (89, .goto 4, 3), (92, .iconst 0, 1), (93, .ireturn, 1), (94, .iconst 1, 1), (95, .ireturn, 1)]
theorem dX11_isOpen_1 : ∀ q ∈ tX11_isOpen_1, decode cX11_isOpen q.1 = .ok q.2 := by decide +kernel
def tX11_chanceOf_0 : List (Nat × Instr × Nat) := [(0, .aload_n 0, 1), (1, .getfield 7, 3), (4, .iload_n 1, 1), (5, .iaload, 1), (6, .tableswitch 69 2 7 #[38, 41, 43, 54, 56, 59], 38), (44, .bipush 9, 2), (46, .ireturn, 1), (47, .iconst 5, 1), (48, .ireturn, 1), (49, .iconst 5, 1), (50, .aload_n 0, 1), (51, .getfield 13, 3), (54, .iload_n 1, 1), (55, .iaload, 1), (56, .iconst 3, 1), (57, .idiv, 1), (58, .iadd, 1), (59, .ireturn, 1), (60, .iconst 0, 1), (61, .ireturn, 1), (62, .bipush 8, 2), (64, .ireturn, 1), (65, .bipush 10, 2), (67, .aload_n 0, 1), (68, .getfield 13, 3), (71, .iload_n 1, 1), (72, .iaload, 1), (73, .isub, 1), (74, .ireturn, 1), (75, .bipush 10, 2), (77, .ireturn, 1)]
theorem dX11_chanceOf_0 : ∀ q ∈ tX11_chanceOf_0, decode cX11_chanceOf q.1 = .ok q.2 := by decide +kernel
def tX11_farOf_0 : List (Nat × Instr × Nat) := [(0, .iload_n 1, 1), (1, .bipush 6, 2), (3, .idiv, 1), (4, .iload_n 2, 1), (5, .bipush 6, 2), (7, .idiv, 1), (8, .isub, 1), (9, .invokestatic 99, 3), (12, .iload_n 1, 1), (13, .bipush 6, 2), (15, .irem, 1), (16, .iload_n 2, 1), (17, .bipush 6, 2), (19, .irem, 1), (20, .isub, 1), (21, .invokestatic 99, 3), (24, .iadd, 1), (25, .aload_n 0, 1), (26, .iload_n 1, 1), (27, .invokevirtual 103, 3), (30, .aload_n 0, 1), (31, .iload_n 2, 1), (32, .invokevirtual 103, 3), (35, .isub, 1), (36, .invokestatic 99, 3), (39, .iconst 2, 1), (40, .idiv, 1), (41, .iadd, 1), (42, .ireturn, 1)]
theorem dX11_farOf_0 : ∀ q ∈ tX11_farOf_0, decode cX11_farOf q.1 = .ok q.2 := by decide +kernel
def tX11_isOff_0 : List (Nat × Instr × Nat) := [(0, .aload_n 0, 1), (1, .iload_n 1, 1), (2, .iload_n 2, 1), (3, .invokevirtual 106, 3), (6, .aload_n 0, 1), (7, .getfield 16, 3), (10, .if_icmp .lt 16, 3), (13, .aload_n 0, 1), (14, .iload_n 1, 1), (15, .iload_n 2, 1), (16, .invokevirtual 106, 3), (19, .aload_n 0, 1), (20, .getfield 20, 3), (23, .if_icmp .le 7, 3), (26, .iconst 1, 1), (27, .goto 4, 3), (30, .iconst 0, 1), (31, .ireturn, 1)]
theorem dX11_isOff_0 : ∀ q ∈ tX11_isOff_0, decode cX11_isOff q.1 = .ok q.2 := by decide +kernel
def tX11_beside_0 : List (Nat × Instr × Nat) := [(0, .iload_n 1, 1), (1, .tableswitch 96 1 4 #[31, 47, 63, 80], 31), (32, .iload_n 0, 1), (33, .bipush 6, 2), (35, .if_icmp .ge 8, 3), (38, .bipush (-4), 2), (40, .goto 7, 3), (43, .iload_n 0, 1), (44, .bipush 6, 2), (46, .isub, 1), (47, .ireturn, 1), (48, .iload_n 0, 1), (49, .bipush 6, 2), (51, .irem, 1), (52, .ifCond .ne 8, 3), (55, .bipush (-4), 2), (57, .goto 6, 3), (60, .iload_n 0, 1), (61, .iconst 1, 1), (62, .isub, 1), (63, .ireturn, 1), (64, .iload_n 0, 1), (65, .bipush 6, 2), (67, .irem, 1), (68, .iconst 5, 1), (69, .if_icmp .ne 8, 3), (72, .bipush (-4), 2), (74, .goto 6, 3), (77, .iload_n 0, 1), (78, .iconst 1, 1), (79, .iadd, 1), (80, .ireturn, 1)]
theorem dX11_beside_0 : ∀ q ∈ tX11_beside_0, decode cX11_beside q.1 = .ok q.2 := by decide +kernel
def tX11_beside_1 : List (Nat × Instr × Nat) := [(81, .iload_n 0, 1), (82, .bipush 29, 2), (84, .if_icmp .le 8, 3), (87, .bipush (-4), 2), (89, .goto 7, 3), (92, .iload_n 0, 1), (93, .bipush 6, 2), (95, .iadd, 1), (96, .ireturn, 1), (97, .iload_n 0, 1), (98, .ireturn, 1)]
theorem dX11_beside_1 : ∀ q ∈ tX11_beside_1, decode cX11_beside q.1 = .ok q.2 := by decide +kernel
def tX11_goneTo_0 : List (Nat × Instr × Nat) := [(0, .iload_n 1, 1), (1, .iload_n 2, 1), (2, .invokestatic 110, 3), (5, .istore_n 3, 1), (6, .iload_n 2, 1), (7, .ifCond .eq 15, 3), (10, .iload_n 3, 1), (11, .ifCond .lt 15, 3), (14, .aload_n 0, 1), (15, .iload_n 3, 1), (16, .invokevirtual 113, 3), (19, .ifCond .eq 7, 3), (22, .iload_n 3, 1), (23, .goto 5, 3), (26, .bipush (-4), 2), (28, .ireturn, 1)]
theorem dX11_goneTo_0 : ∀ q ∈ tX11_goneTo_0, decode cX11_goneTo q.1 = .ok q.2 := by decide +kernel
def tX11_openCells_0 : List (Nat × Instr × Nat) := [(0, .lconst 0, 1), (1, .lstore_n 1, 1), (2, .iconst 0, 1), (3, .istore_n 3, 1), (4, .iload_n 3, 1), (5, .bipush 36, 2), (7, .if_icmp .ge 27, 3), (10, .lload_n 1, 1), (11, .aload_n 0, 1), (12, .iload_n 3, 1), (13, .invokevirtual 113, 3), (16, .ifCond .eq 9, 3), (19, .lconst 1, 1), (20, .iload_n 3, 1), (21, .lshl, 1), (22, .goto 4, 3), (25, .lconst 0, 1), (26, .lor, 1), (27, .lstore_n 1, 1), (28, .iinc 3 1, 3), (31, .goto (-27), 3), (34, .lload_n 1, 1), (35, .lreturn, 1)]
theorem dX11_openCells_0 : ∀ q ∈ tX11_openCells_0, decode cX11_openCells q.1 = .ok q.2 := by decide +kernel
def tX11_goOn_0 : List (Nat × Instr × Nat) := [(0, .lconst 0, 1), (1, .lstore_n 3, 1), (2, .iconst 0, 1), (3, .istore 5, 2), (5, .iload 5, 2), (7, .bipush 36, 2), (9, .if_icmp .ge 68, 3), (12, .iconst 0, 1), (13, .istore 6, 2), (15, .iload 6, 2), (17, .iconst 5, 1), (18, .if_icmp .ge 53, 3), (21, .lload_n 1, 1), (22, .iload 5, 2), (24, .invokestatic 117, 3), (27, .ifCond .eq 44, 3), (30, .aload_n 0, 1), (31, .iload 5, 2), (33, .iload 6, 2), (35, .invokevirtual 121, 3), (38, .istore 7, 2), (40, .lload_n 3, 1), (41, .iload 7, 2), (43, .ifCond .lt 19, 3), (46, .aload_n 0, 1), (47, .iload 7, 2), (49, .invokevirtual 113, 3), (52, .ifCond .eq 10, 3), (55, .lconst 1, 1), (56, .iload 7, 2), (58, .lshl, 1), (59, .goto 4, 3)]
theorem dX11_goOn_0 : ∀ q ∈ tX11_goOn_0, decode cX11_goOn q.1 = .ok q.2 := by decide +kernel
def tX11_goOn_1 : List (Nat × Instr × Nat) := [(62, .lconst 0, 1), (63, .lor, 1), (64, .lstore_n 3, 1), (65, .iinc 6 1, 3), (68, .goto (-53), 3), (71, .iinc 5 1, 3), (74, .goto (-69), 3), (77, .lload_n 3, 1), (78, .lreturn, 1)]
theorem dX11_goOn_1 : ∀ q ∈ tX11_goOn_1, decode cX11_goOn q.1 = .ok q.2 := by decide +kernel
def tX11_here_0 : List (Nat × Instr × Nat) := [(0, .aload_n 0, 1), (1, .getfield 124, 3), (4, .aload_n 0, 1), (5, .getfield 41, 3), (8, .aload_n 0, 1), (9, .getfield 127, 3), (12, .iaload, 1), (13, .if_icmp .ge 24, 3), (16, .aload_n 0, 1), (17, .getfield 44, 3), (20, .bipush 100, 2), (22, .aload_n 0, 1), (23, .getfield 127, 3), (26, .imul, 1), (27, .aload_n 0, 1), (28, .getfield 124, 3), (31, .iadd, 1), (32, .laload, 1), (33, .l2i, 1), (34, .goto 6, 3), (37, .sipush (-999), 3), (40, .ireturn, 1)]
theorem dX11_here_0 : ∀ q ∈ tX11_here_0, decode cX11_here q.1 = .ok q.2 := by decide +kernel
def tX11_readDigits_0 : List (Nat × Instr × Nat) := [(0, .iconst 0, 1), (1, .istore_n 2, 1), (2, .iconst 0, 1), (3, .istore_n 3, 1), (4, .iload_n 3, 1), (5, .iload_n 1, 1), (6, .if_icmp .ge 87, 3), (9, .aload_n 0, 1), (10, .aload_n 0, 1), (11, .getfield 130, 3), (14, .ifCond .ne 20, 3), (17, .aload_n 0, 1), (18, .invokevirtual 134, 3), (21, .i2l, 1), (22, .ldc2_w 138, 3), (25, .ldc2_w 140, 3), (28, .invokestatic 92, 3), (31, .ifCond .ne 7, 3), (34, .iconst 1, 1), (35, .goto 4, 3), (38, .iconst 0, 1), (39, .putfield 130, 3), (42, .aload_n 0, 1), (43, .getfield 130, 3), (46, .ifCond .eq 7, 3), (49, .iconst 0, 1), (50, .goto 15, 3), (53, .bipush 10, 2), (55, .iload_n 2, 1), (56, .imul, 1), (57, .aload_n 0, 1), (58, .invokevirtual 134, 3)]
theorem dX11_readDigits_0 : ∀ q ∈ tX11_readDigits_0, decode cX11_readDigits q.1 = .ok q.2 := by decide +kernel
def tX11_readDigits_1 : List (Nat × Instr × Nat) := [(61, .iadd, 1), (62, .bipush 48, 2), (64, .isub, 1), (65, .istore_n 2, 1), (66, .aload_n 0, 1), (67, .dup, 1), (68, .getfield 124, 3), (71, .aload_n 0, 1), (72, .getfield 130, 3), (75, .ifCond .eq 7, 3), (78, .iconst 0, 1), (79, .goto 4, 3), (82, .iconst 1, 1), (83, .iadd, 1), (84, .putfield 124, 3), (87, .iinc 3 1, 3), (90, .goto (-86), 3), (93, .iload_n 2, 1), (94, .ireturn, 1)]
theorem dX11_readDigits_1 : ∀ q ∈ tX11_readDigits_1, decode cX11_readDigits q.1 = .ok q.2 := by decide +kernel
def tX11_isLetter_0 : List (Nat × Instr × Nat) := [(0, .iload_n 0, 1), (1, .bipush 103, 2), (3, .if_icmp .eq 33, 3), (6, .iload_n 0, 1), (7, .bipush 104, 2), (9, .if_icmp .eq 27, 3), (12, .iload_n 0, 1), (13, .bipush 115, 2), (15, .if_icmp .eq 21, 3), (18, .iload_n 0, 1), (19, .bipush 110, 2), (21, .if_icmp .eq 15, 3), (24, .iload_n 0, 1), (25, .bipush 119, 2), (27, .if_icmp .eq 9, 3), (30, .iload_n 0, 1), (31, .bipush 100, 2), (33, .if_icmp .ne 7, 3), (36, .iconst 1, 1), (37, .goto 4, 3), (40, .iconst 0, 1), (41, .ireturn, 1)]
theorem dX11_isLetter_0 : ∀ q ∈ tX11_isLetter_0, decode cX11_isLetter q.1 = .ok q.2 := by decide +kernel
def tX11_readStatement_0 : List (Nat × Instr × Nat) := [(0, .aload_n 0, 1), (1, .getfield 142, 3), (4, .istore_n 1, 1), (5, .aload_n 0, 1), (6, .invokevirtual 134, 3), (9, .istore_n 2, 1), (10, .iconst 3, 1), (11, .iload_n 1, 1), (12, .imul, 1), (13, .istore_n 3, 1), (14, .aload_n 0, 1), (15, .getfield 51, 3), (18, .iload_n 1, 1), (19, .aload_n 0, 1), (20, .getfield 124, 3), (23, .iastore, 1), (24, .aload_n 0, 1), (25, .getfield 54, 3), (28, .iload_n 1, 1), (29, .iload_n 2, 1), (30, .iastore, 1), (31, .aload_n 0, 1), (32, .aload_n 0, 1), (33, .getfield 130, 3), (36, .ifCond .ne 10, 3), (39, .iload_n 2, 1), (40, .invokestatic 145, 3), (43, .ifCond .ne 7, 3), (46, .iconst 1, 1), (47, .goto 4, 3), (50, .iconst 0, 1), (51, .putfield 130, 3)]
theorem dX11_readStatement_0 : ∀ q ∈ tX11_readStatement_0, decode cX11_readStatement q.1 = .ok q.2 := by decide +kernel
def tX11_readStatement_1 : List (Nat × Instr × Nat) := [(54, .aload_n 0, 1), (55, .dup, 1), (56, .getfield 124, 3), (59, .aload_n 0, 1), (60, .getfield 130, 3), (63, .ifCond .eq 7, 3), (66, .iconst 0, 1), (67, .goto 4, 3), (70, .iconst 1, 1), (71, .iadd, 1), (72, .putfield 124, 3), (75, .iload_n 2, 1), (76, .bipush 103, 2), (78, .if_icmp .ne 43, 3), (81, .aload_n 0, 1), (82, .getfield 57, 3), (85, .iload_n 3, 1), (86, .aload_n 0, 1), (87, .iconst 1, 1), (88, .invokevirtual 148, 3), (91, .iastore, 1), (92, .aload_n 0, 1), (93, .getfield 57, 3), (96, .iload_n 3, 1), (97, .iconst 1, 1), (98, .iadd, 1), (99, .aload_n 0, 1), (100, .iconst 1, 1), (101, .invokevirtual 148, 3), (104, .iastore, 1), (105, .aload_n 0, 1), (106, .getfield 57, 3)]
theorem dX11_readStatement_1 : ∀ q ∈ tX11_readStatement_1, decode cX11_readStatement q.1 = .ok q.2 := by decide +kernel
def tX11_readStatement_2 : List (Nat × Instr × Nat) := [(109, .iload_n 3, 1), (110, .iconst 2, 1), (111, .iadd, 1), (112, .aload_n 0, 1), (113, .iconst 2, 1), (114, .invokevirtual 148, 3), (117, .iastore, 1), (118, .goto 97, 3), (121, .iload_n 2, 1), (122, .bipush 119, 2), (124, .if_icmp .ne 17, 3), (127, .aload_n 0, 1), (128, .getfield 57, 3), (131, .iload_n 3, 1), (132, .aload_n 0, 1), (133, .iconst 1, 1), (134, .invokevirtual 148, 3), (137, .iastore, 1), (138, .goto 77, 3), (141, .iload_n 2, 1), (142, .bipush 100, 2), (144, .if_icmp .ne 30, 3), (147, .aload_n 0, 1), (148, .getfield 57, 3), (151, .iload_n 3, 1), (152, .aload_n 0, 1), (153, .iconst 1, 1), (154, .invokevirtual 148, 3), (157, .iastore, 1), (158, .aload_n 0, 1), (159, .getfield 57, 3), (162, .iload_n 3, 1)]
theorem dX11_readStatement_2 : ∀ q ∈ tX11_readStatement_2, decode cX11_readStatement q.1 = .ok q.2 := by decide +kernel
def tX11_readStatement_3 : List (Nat × Instr × Nat) := [(163, .iconst 1, 1), (164, .iadd, 1), (165, .aload_n 0, 1), (166, .iconst 1, 1), (167, .invokevirtual 148, 3), (170, .iastore, 1), (171, .goto 44, 3), (174, .aload_n 0, 1), (175, .getfield 130, 3), (178, .ifCond .ne 37, 3), (181, .aload_n 0, 1), (182, .getfield 57, 3), (185, .iload_n 3, 1), (186, .aload_n 0, 1), (187, .iconst 2, 1), (188, .invokevirtual 148, 3), (191, .iastore, 1), (192, .aload_n 0, 1), (193, .getfield 57, 3), (196, .iload_n 3, 1), (197, .iconst 1, 1), (198, .iadd, 1), (199, .iload_n 2, 1), (200, .bipush 110, 2), (202, .if_icmp .ne 11, 3), (205, .aload_n 0, 1), (206, .iconst 2, 1), (207, .invokevirtual 148, 3), (210, .goto 4, 3), (213, .iconst 0, 1), (214, .iastore, 1), (215, .aload_n 0, 1)]
theorem dX11_readStatement_3 : ∀ q ∈ tX11_readStatement_3, decode cX11_readStatement q.1 = .ok q.2 := by decide +kernel
def tX11_readStatement_4 : List (Nat × Instr × Nat) := [(216, .aload_n 0, 1), (217, .getfield 130, 3), (220, .ifCond .ne 12, 3), (223, .aload_n 0, 1), (224, .invokevirtual 134, 3), (227, .bipush 59, 2), (229, .if_icmp .eq 7, 3), (232, .iconst 1, 1), (233, .goto 4, 3), (236, .iconst 0, 1), (237, .putfield 130, 3), (240, .aload_n 0, 1), (241, .dup, 1), (242, .getfield 124, 3), (245, .aload_n 0, 1), (246, .getfield 130, 3), (249, .ifCond .eq 7, 3), (252, .iconst 0, 1), (253, .goto 4, 3), (256, .iconst 1, 1), (257, .iadd, 1), (258, .putfield 124, 3), (261, .aload_n 0, 1), (262, .dup, 1), (263, .getfield 142, 3), (266, .iconst 1, 1), (267, .iadd, 1), (268, .putfield 142, 3), (271, .return_, 1)]
theorem dX11_readStatement_4 : ∀ q ∈ tX11_readStatement_4, decode cX11_readStatement q.1 = .ok q.2 := by decide +kernel
def tX11_canGo_0 : List (Nat × Instr × Nat) := [(0, .aload_n 0, 1), (1, .getfield 23, 3), (4, .ifCond .lt 48, 3), (7, .aload_n 0, 1), (8, .getfield 26, 3), (11, .ifCond .lt 41, 3), (14, .aload_n 0, 1), (15, .getfield 151, 3), (18, .sipush 999, 3), (21, .if_icmp .ge 31, 3), (24, .aload_n 0, 1), (25, .aload_n 0, 1), (26, .getfield 23, 3), (29, .iload_n 1, 1), (30, .invokevirtual 121, 3), (33, .ifCond .lt 19, 3), (36, .aload_n 0, 1), (37, .aload_n 0, 1), (38, .getfield 26, 3), (41, .iload_n 2, 1), (42, .invokevirtual 121, 3), (45, .ifCond .lt 7, 3), (48, .iconst 1, 1), (49, .goto 4, 3), (52, .iconst 0, 1), (53, .ireturn, 1)]
theorem dX11_canGo_0 : ∀ q ∈ tX11_canGo_0, decode cX11_canGo q.1 = .ok q.2 := by decide +kernel
def tX11_goBoth_0 : List (Nat × Instr × Nat) := [(0, .aload_n 0, 1), (1, .aload_n 0, 1), (2, .getfield 23, 3), (5, .iload_n 1, 1), (6, .invokevirtual 121, 3), (9, .istore_n 3, 1), (10, .aload_n 0, 1), (11, .aload_n 0, 1), (12, .aload_n 0, 1), (13, .getfield 26, 3), (16, .iload_n 2, 1), (17, .invokevirtual 121, 3), (20, .putfield 26, 3), (23, .aload_n 0, 1), (24, .iload_n 3, 1), (25, .putfield 23, 3), (28, .aload_n 0, 1), (29, .dup, 1), (30, .getfield 154, 3), (33, .aload_n 0, 1), (34, .aload_n 0, 1), (35, .getfield 23, 3), (38, .aload_n 0, 1), (39, .getfield 26, 3), (42, .invokevirtual 106, 3), (45, .aload_n 0, 1), (46, .getfield 16, 3), (49, .if_icmp .ge 7, 3), (52, .iconst 1, 1), (53, .goto 4, 3), (56, .iconst 0, 1), (57, .iadd, 1)]
theorem dX11_goBoth_0 : ∀ q ∈ tX11_goBoth_0, decode cX11_goBoth q.1 = .ok q.2 := by decide +kernel
def tX11_goBoth_1 : List (Nat × Instr × Nat) := [(58, .putfield 154, 3), (61, .aload_n 0, 1), (62, .dup, 1), (63, .getfield 157, 3), (66, .aload_n 0, 1), (67, .aload_n 0, 1), (68, .getfield 23, 3), (71, .aload_n 0, 1), (72, .getfield 26, 3), (75, .invokevirtual 106, 3), (78, .aload_n 0, 1), (79, .getfield 20, 3), (82, .if_icmp .le 7, 3), (85, .iconst 1, 1), (86, .goto 4, 3), (89, .iconst 0, 1), (90, .iadd, 1), (91, .putfield 157, 3), (94, .aload_n 0, 1), (95, .dup, 1), (96, .getfield 151, 3), (99, .iconst 1, 1), (100, .iadd, 1), (101, .putfield 151, 3), (104, .return_, 1)]
theorem dX11_goBoth_1 : ∀ q ∈ tX11_goBoth_1, decode cX11_goBoth q.1 = .ok q.2 := by decide +kernel
def tX11_comes_0 : List (Nat × Instr × Nat) := [(0, .aload_n 0, 1), (1, .getfield 57, 3), (4, .iconst 3, 1), (5, .iload_n 1, 1), (6, .imul, 1), (7, .iaload, 1), (8, .istore_n 2, 1), (9, .aload_n 0, 1), (10, .getfield 57, 3), (13, .iconst 3, 1), (14, .iload_n 1, 1), (15, .imul, 1), (16, .iconst 1, 1), (17, .iadd, 1), (18, .iaload, 1), (19, .istore_n 3, 1), (20, .iconst 1, 1), (21, .istore 4, 2), (23, .aload_n 0, 1), (24, .getfield 54, 3), (27, .iload_n 1, 1), (28, .iaload, 1), (29, .lookupswitch 195 #[(100, 155), (103, 43), (110, 111), (119, 139)], 43), (72, .iload_n 2, 1), (73, .bipush 8, 2), (75, .if_icmp .ge 22, 3), (78, .aload_n 0, 1), (79, .getfield 57, 3), (82, .iconst 3, 1), (83, .iload_n 1, 1), (84, .imul, 1), (85, .iconst 2, 1)]
theorem dX11_comes_0 : ∀ q ∈ tX11_comes_0, decode cX11_comes q.1 = .ok q.2 := by decide +kernel
def tX11_comes_1 : List (Nat × Instr × Nat) := [(86, .iadd, 1), (87, .iaload, 1), (88, .bipush 36, 2), (90, .if_icmp .ge 7, 3), (93, .iconst 1, 1), (94, .goto 4, 3), (97, .iconst 0, 1), (98, .istore 4, 2), (100, .iload 4, 2), (102, .ifCond .eq 35, 3), (105, .aload_n 0, 1), (106, .getfield 7, 3), (109, .aload_n 0, 1), (110, .getfield 57, 3), (113, .iconst 3, 1), (114, .iload_n 1, 1), (115, .imul, 1), (116, .iconst 2, 1), (117, .iadd, 1), (118, .iaload, 1), (119, .iload_n 2, 1), (120, .iastore, 1), (121, .aload_n 0, 1), (122, .getfield 13, 3), (125, .aload_n 0, 1), (126, .getfield 57, 3), (129, .iconst 3, 1), (130, .iload_n 1, 1), (131, .imul, 1), (132, .iconst 2, 1), (133, .iadd, 1), (134, .iaload, 1)]
theorem dX11_comes_1 : ∀ q ∈ tX11_comes_1, decode cX11_comes q.1 = .ok q.2 := by decide +kernel
def tX11_comes_2 : List (Nat × Instr × Nat) := [(135, .iload_n 3, 1), (136, .iastore, 1), (137, .iload 4, 2), (139, .ireturn, 1), (140, .aload_n 0, 1), (141, .iload_n 2, 1), (142, .putfield 16, 3), (145, .aload_n 0, 1), (146, .iload_n 3, 1), (147, .putfield 20, 3), (150, .iload_n 2, 1), (151, .bipush 20, 2), (153, .if_icmp .gt 13, 3), (156, .iload_n 3, 1), (157, .bipush 20, 2), (159, .if_icmp .gt 7, 3), (162, .iconst 1, 1), (163, .goto 4, 3), (166, .iconst 0, 1), (167, .ireturn, 1), (168, .aload_n 0, 1), (169, .iload_n 2, 1), (170, .putfield 96, 3), (173, .iload_n 2, 1), (174, .iconst 2, 1), (175, .if_icmp .ge 7, 3), (178, .iconst 1, 1), (179, .goto 4, 3), (182, .iconst 0, 1), (183, .ireturn, 1), (184, .iload_n 2, 1), (185, .iconst 5, 1)]
theorem dX11_comes_2 : ∀ q ∈ tX11_comes_2, decode cX11_comes q.1 = .ok q.2 := by decide +kernel
def tX11_comes_3 : List (Nat × Instr × Nat) := [(186, .if_icmp .ge 21, 3), (189, .iload_n 3, 1), (190, .iconst 5, 1), (191, .if_icmp .ge 16, 3), (194, .aload_n 0, 1), (195, .iload_n 2, 1), (196, .iload_n 3, 1), (197, .invokevirtual 160, 3), (200, .ifCond .eq 7, 3), (203, .iconst 1, 1), (204, .goto 4, 3), (207, .iconst 0, 1), (208, .istore 4, 2), (210, .iload 4, 2), (212, .ifCond .eq 9, 3), (215, .aload_n 0, 1), (216, .iload_n 2, 1), (217, .iload_n 3, 1), (218, .invokevirtual 164, 3), (221, .iload 4, 2), (223, .ireturn, 1), (224, .iload_n 2, 1), (225, .bipush 36, 2), (227, .if_icmp .ge 15, 3), (230, .aload_n 0, 1), (231, .iload_n 2, 1), (232, .invokevirtual 113, 3), (235, .ifCond .eq 7, 3), (238, .iconst 1, 1), (239, .goto 4, 3), (242, .iconst 0, 1), (243, .istore 4, 2)]
theorem dX11_comes_3 : ∀ q ∈ tX11_comes_3, decode cX11_comes q.1 = .ok q.2 := by decide +kernel
def tX11_comes_4 : List (Nat × Instr × Nat) := [(245, .aload_n 0, 1), (246, .aload_n 0, 1), (247, .getfield 54, 3), (250, .iload_n 1, 1), (251, .iaload, 1), (252, .bipush 104, 2), (254, .if_icmp .ne 12, 3), (257, .iload 4, 2), (259, .ifCond .eq 7, 3), (262, .iload_n 2, 1), (263, .goto 7, 3), (266, .aload_n 0, 1), (267, .getfield 23, 3), (270, .putfield 23, 3), (273, .aload_n 0, 1), (274, .aload_n 0, 1), (275, .getfield 54, 3), (278, .iload_n 1, 1), (279, .iaload, 1), (280, .bipush 115, 2), (282, .if_icmp .ne 12, 3), (285, .iload 4, 2), (287, .ifCond .eq 7, 3), (290, .iload_n 2, 1), (291, .goto 7, 3), (294, .aload_n 0, 1), (295, .getfield 26, 3), (298, .putfield 26, 3), (301, .iload 4, 2), (303, .ireturn, 1)]
theorem dX11_comes_4 : ∀ q ∈ tX11_comes_4, decode cX11_comes q.1 = .ok q.2 := by decide +kernel
def tX11_land_0 : List (Nat × Instr × Nat) := [(0, .aload_n 0, 1), (1, .iconst 0, 1), (2, .putfield 87, 3), (5, .aload_n 0, 1), (6, .iload_n 1, 1), (7, .invokevirtual 168, 3), (10, .istore_n 2, 1), (11, .iload_n 2, 1), (12, .ifCond .ne 17, 3), (15, .aload_n 0, 1), (16, .getfield 38, 3), (19, .iload_n 1, 1), (20, .iaload, 1), (21, .ifCond .eq 8, 3), (24, .bipush (-12), 2), (26, .goto 4, 3), (29, .iload_n 2, 1), (30, .istore_n 2, 1), (31, .iload_n 2, 1), (32, .ifCond .ge 5, 3), (35, .iload_n 2, 1), (36, .ireturn, 1), (37, .aload_n 0, 1), (38, .iload_n 1, 1), (39, .putfield 127, 3), (42, .aload_n 0, 1), (43, .iconst 0, 1), (44, .putfield 124, 3), (47, .aload_n 0, 1), (48, .iconst 0, 1), (49, .putfield 130, 3), (52, .aload_n 0, 1)]
theorem dX11_land_0 : ∀ q ∈ tX11_land_0, decode cX11_land q.1 = .ok q.2 := by decide +kernel
def tX11_land_1 : List (Nat × Instr × Nat) := [(53, .iconst 0, 1), (54, .putfield 142, 3), (57, .aload_n 0, 1), (58, .getfield 130, 3), (61, .ifCond .ne 30, 3), (64, .aload_n 0, 1), (65, .getfield 142, 3), (68, .ifCond .eq 16, 3), (71, .aload_n 0, 1), (72, .getfield 124, 3), (75, .aload_n 0, 1), (76, .getfield 41, 3), (79, .iload_n 1, 1), (80, .iaload, 1), (81, .if_icmp .ge 10, 3), (84, .aload_n 0, 1), (85, .invokevirtual 171, 3), (88, .goto (-31), 3), (91, .aload_n 0, 1), (92, .getfield 130, 3), (95, .ifCond .eq 12, 3), (98, .sipush (-1000), 3), (101, .aload_n 0, 1), (102, .getfield 124, 3), (105, .isub, 1), (106, .ireturn, 1), (107, .aload_n 0, 1), (108, .aload_n 0, 1), (109, .getfield 60, 3), (112, .iconst 1, 1), (113, .invokevirtual 174, 3), (116, .iconst 0, 1)]
theorem dX11_land_1 : ∀ q ∈ tX11_land_1, decode cX11_land q.1 = .ok q.2 := by decide +kernel
def tX11_land_2 : List (Nat × Instr × Nat) := [(117, .istore_n 3, 1), (118, .iload_n 3, 1), (119, .aload_n 0, 1), (120, .getfield 142, 3), (123, .if_icmp .ge 37, 3), (126, .aload_n 0, 1), (127, .iload_n 3, 1), (128, .invokevirtual 178, 3), (131, .ifCond .ne 23, 3), (134, .aload_n 0, 1), (135, .aload_n 0, 1), (136, .getfield 60, 3), (139, .iconst 0, 1), (140, .invokevirtual 174, 3), (143, .sipush (-2000), 3), (146, .aload_n 0, 1), (147, .getfield 51, 3), (150, .iload_n 3, 1), (151, .iaload, 1), (152, .isub, 1), (153, .ireturn, 1), (154, .iinc 3 1, 3), (157, .goto (-39), 3), (160, .aload_n 0, 1), (161, .getfield 142, 3), (164, .ireturn, 1)]
theorem dX11_land_2 : ∀ q ∈ tX11_land_2, decode cX11_land q.1 = .ok q.2 := by decide +kernel
def tX11_carry_0 : List (Nat × Instr × Nat) := [(0, .aload_n 0, 1), (1, .getfield 181, 3), (4, .ifCond .eq 13, 3), (7, .aload_n 0, 1), (8, .getfield 184, 3), (11, .aload_n 0, 1), (12, .getfield 187, 3), (15, .iload_n 1, 1), (16, .iastore, 1), (17, .aload_n 0, 1), (18, .dup, 1), (19, .getfield 187, 3), (22, .iconst 1, 1), (23, .iadd, 1), (24, .putfield 187, 3), (27, .aload_n 0, 1), (28, .getfield 184, 3), (31, .aload_n 0, 1), (32, .getfield 187, 3), (35, .iconst 1, 1), (36, .isub, 1), (37, .iaload, 1), (38, .ireturn, 1)]
theorem dX11_carry_0 : ∀ q ∈ tX11_carry_0, decode cX11_carry q.1 = .ok q.2 := by decide +kernel
def tX11_carryAll_0 : List (Nat × Instr × Nat) := [(0, .aload_n 0, 1), (1, .aload_n 1, 1), (2, .putfield 184, 3), (5, .aload_n 0, 1), (6, .iload_n 2, 1), (7, .putfield 181, 3), (10, .aload_n 0, 1), (11, .iconst 0, 1), (12, .putfield 187, 3), (15, .aload_n 0, 1), (16, .aload_n 0, 1), (17, .aload_n 0, 1), (18, .getfield 96, 3), (21, .invokevirtual 190, 3), (24, .putfield 96, 3), (27, .aload_n 0, 1), (28, .aload_n 0, 1), (29, .aload_n 0, 1), (30, .getfield 16, 3), (33, .invokevirtual 190, 3), (36, .putfield 16, 3), (39, .aload_n 0, 1), (40, .aload_n 0, 1), (41, .aload_n 0, 1), (42, .getfield 20, 3), (45, .invokevirtual 190, 3), (48, .putfield 20, 3), (51, .aload_n 0, 1), (52, .aload_n 0, 1), (53, .aload_n 0, 1), (54, .getfield 23, 3), (57, .invokevirtual 190, 3)]
theorem dX11_carryAll_0 : ∀ q ∈ tX11_carryAll_0, decode cX11_carryAll q.1 = .ok q.2 := by decide +kernel
def tX11_carryAll_1 : List (Nat × Instr × Nat) := [(60, .putfield 23, 3), (63, .aload_n 0, 1), (64, .aload_n 0, 1), (65, .aload_n 0, 1), (66, .getfield 26, 3), (69, .invokevirtual 190, 3), (72, .putfield 26, 3), (75, .aload_n 0, 1), (76, .aload_n 0, 1), (77, .aload_n 0, 1), (78, .getfield 151, 3), (81, .invokevirtual 190, 3), (84, .putfield 151, 3), (87, .aload_n 0, 1), (88, .aload_n 0, 1), (89, .aload_n 0, 1), (90, .getfield 154, 3), (93, .invokevirtual 190, 3), (96, .putfield 154, 3), (99, .aload_n 0, 1), (100, .aload_n 0, 1), (101, .aload_n 0, 1), (102, .getfield 157, 3), (105, .invokevirtual 190, 3), (108, .putfield 157, 3), (111, .iconst 0, 1), (112, .istore_n 3, 1), (113, .iload_n 3, 1), (114, .bipush 36, 2), (116, .if_icmp .ge 41, 3), (119, .aload_n 0, 1), (120, .getfield 7, 3)]
theorem dX11_carryAll_1 : ∀ q ∈ tX11_carryAll_1, decode cX11_carryAll q.1 = .ok q.2 := by decide +kernel
def tX11_carryAll_2 : List (Nat × Instr × Nat) := [(123, .iload_n 3, 1), (124, .aload_n 0, 1), (125, .aload_n 0, 1), (126, .getfield 7, 3), (129, .iload_n 3, 1), (130, .iaload, 1), (131, .invokevirtual 190, 3), (134, .iastore, 1), (135, .aload_n 0, 1), (136, .getfield 13, 3), (139, .iload_n 3, 1), (140, .aload_n 0, 1), (141, .aload_n 0, 1), (142, .getfield 13, 3), (145, .iload_n 3, 1), (146, .iaload, 1), (147, .invokevirtual 190, 3), (150, .iastore, 1), (151, .iinc 3 1, 3), (154, .goto (-41), 3), (157, .return_, 1)]
theorem dX11_carryAll_2 : ∀ q ∈ tX11_carryAll_2, decode cX11_carryAll q.1 = .ok q.2 := by decide +kernel
def tX11_image_0 : List (Nat × Instr × Nat) := [(0, .aload_n 0, 1), (1, .iconst 0, 1), (2, .putfield 87, 3), (5, .aload_n 0, 1), (6, .iconst 1, 1), (7, .putfield 193, 3), (10, .aload_n 0, 1), (11, .aload_n 0, 1), (12, .getfield 63, 3), (15, .iconst 1, 1), (16, .invokevirtual 174, 3), (19, .aload_n 0, 1), (20, .getfield 151, 3), (23, .ireturn, 1)]
theorem dX11_image_0 : ∀ q ∈ tX11_image_0, decode cX11_image q.1 = .ok q.2 := by decide +kernel
def tX11_restore_0 : List (Nat × Instr × Nat) := [(0, .aload_n 0, 1), (1, .iconst 0, 1), (2, .putfield 87, 3), (5, .aload_n 0, 1), (6, .getfield 193, 3), (9, .ifCond .ne 6, 3), (12, .bipush (-3), 2), (14, .ireturn, 1), (15, .aload_n 0, 1), (16, .aload_n 0, 1), (17, .getfield 63, 3), (20, .iconst 0, 1), (21, .invokevirtual 174, 3), (24, .aload_n 0, 1), (25, .getfield 151, 3), (28, .ireturn, 1)]
theorem dX11_restore_0 : ∀ q ∈ tX11_restore_0, decode cX11_restore q.1 = .ok q.2 := by decide +kernel
def tX11_ground_0 : List (Nat × Instr × Nat) := [(0, .aload_n 0, 1), (1, .iconst 0, 1), (2, .putfield 87, 3), (5, .iload_n 1, 1), (6, .i2l, 1), (7, .invokestatic 196, 3), (10, .ifCond .ne 5, 3), (13, .iconst (-1), 1), (14, .ireturn, 1), (15, .iload_n 2, 1), (16, .tableswitch 76 0 4 #[36, 43, 50, 56, 70], 36), (52, .aload_n 0, 1), (53, .getfield 7, 3), (56, .iload_n 1, 1), (57, .iaload, 1), (58, .ireturn, 1), (59, .aload_n 0, 1), (60, .getfield 13, 3), (63, .iload_n 1, 1), (64, .iaload, 1), (65, .ireturn, 1), (66, .aload_n 0, 1), (67, .iload_n 1, 1), (68, .invokevirtual 103, 3), (71, .ireturn, 1), (72, .aload_n 0, 1), (73, .iload_n 1, 1), (74, .invokevirtual 113, 3), (77, .ifCond .eq 7, 3), (80, .iconst 1, 1), (81, .goto 4, 3), (84, .iconst 0, 1)]
theorem dX11_ground_0 : ∀ q ∈ tX11_ground_0, decode cX11_ground q.1 = .ok q.2 := by decide +kernel
def tX11_ground_1 : List (Nat × Instr × Nat) := [(85, .ireturn, 1), (86, .aload_n 0, 1), (87, .iload_n 1, 1), (88, .invokevirtual 200, 3), (91, .ireturn, 1), (92, .iconst (-1), 1), (93, .ireturn, 1)]
theorem dX11_ground_1 : ∀ q ∈ tX11_ground_1, decode cX11_ground q.1 = .ok q.2 := by decide +kernel
def tX11_wrongKept_0 : List (Nat × Instr × Nat) := [(0, .iload_n 1, 1), (1, .i2l, 1), (2, .lconst 0, 1), (3, .ldc2_w 203, 3), (6, .invokestatic 92, 3), (9, .ifCond .ne 7, 3), (12, .iconst (-1), 1), (13, .goto 33, 3), (16, .aload_n 0, 1), (17, .getfield 29, 3), (20, .iload_n 1, 1), (21, .iaload, 1), (22, .ifCond .ne 8, 3), (25, .bipush (-11), 2), (27, .goto 19, 3), (30, .aload_n 0, 1), (31, .getfield 29, 3), (34, .iload_n 1, 1), (35, .iaload, 1), (36, .iconst 1, 1), (37, .if_icmp .eq 8, 3), (40, .bipush (-12), 2), (42, .goto 4, 3), (45, .iconst 0, 1), (46, .ireturn, 1)]
theorem dX11_wrongKept_0 : ∀ q ∈ tX11_wrongKept_0, decode cX11_wrongKept q.1 = .ok q.2 := by decide +kernel
def tX11_lays_0 : List (Nat × Instr × Nat) := [(0, .aload_n 0, 1), (1, .iconst 0, 1), (2, .putfield 87, 3), (5, .iload_n 2, 1), (6, .i2l, 1), (7, .invokestatic 196, 3), (10, .ifCond .eq 11, 3), (13, .aload_n 0, 1), (14, .iload_n 1, 1), (15, .invokevirtual 205, 3), (18, .goto 4, 3), (21, .iconst (-1), 1), (22, .istore_n 3, 1), (23, .iload_n 3, 1), (24, .ifCond .ge 5, 3), (27, .iload_n 3, 1), (28, .ireturn, 1), (29, .aload_n 0, 1), (30, .getfield 7, 3), (33, .iload_n 2, 1), (34, .iaload, 1), (35, .istore 4, 2), (37, .aload_n 0, 1), (38, .getfield 7, 3), (41, .iload_n 2, 1), (42, .aload_n 0, 1), (43, .getfield 32, 3), (46, .iload_n 1, 1), (47, .iaload, 1), (48, .iastore, 1), (49, .aload_n 0, 1), (50, .getfield 13, 3)]
theorem dX11_lays_0 : ∀ q ∈ tX11_lays_0, decode cX11_lays q.1 = .ok q.2 := by decide +kernel
def tX11_lays_1 : List (Nat × Instr × Nat) := [(53, .iload_n 2, 1), (54, .aload_n 0, 1), (55, .getfield 35, 3), (58, .iload_n 1, 1), (59, .iaload, 1), (60, .iastore, 1), (61, .iload 4, 2), (63, .ireturn, 1)]
theorem dX11_lays_1 : ∀ q ∈ tX11_lays_1, decode cX11_lays q.1 = .ok q.2 := by decide +kernel
def tX11_stands_0 : List (Nat × Instr × Nat) := [(0, .aload_n 0, 1), (1, .iconst 0, 1), (2, .putfield 87, 3), (5, .iload_n 1, 1), (6, .i2l, 1), (7, .lconst 0, 1), (8, .lconst 1, 1), (9, .invokestatic 92, 3), (12, .ifCond .eq 11, 3), (15, .iload_n 2, 1), (16, .i2l, 1), (17, .invokestatic 196, 3), (20, .ifCond .ne 5, 3), (23, .iconst (-1), 1), (24, .ireturn, 1), (25, .aload_n 0, 1), (26, .iload_n 2, 1), (27, .invokevirtual 113, 3), (30, .ifCond .ne 6, 3), (33, .bipush (-3), 2), (35, .ireturn, 1), (36, .iload_n 1, 1), (37, .ifCond .ne 10, 3), (40, .aload_n 0, 1), (41, .getfield 23, 3), (44, .goto 7, 3), (47, .aload_n 0, 1), (48, .getfield 26, 3), (51, .istore_n 3, 1), (52, .aload_n 0, 1), (53, .iload_n 1, 1), (54, .ifCond .ne 7, 3)]
theorem dX11_stands_0 : ∀ q ∈ tX11_stands_0, decode cX11_stands q.1 = .ok q.2 := by decide +kernel
def tX11_stands_1 : List (Nat × Instr × Nat) := [(57, .iload_n 2, 1), (58, .goto 7, 3), (61, .aload_n 0, 1), (62, .getfield 23, 3), (65, .putfield 23, 3), (68, .aload_n 0, 1), (69, .iload_n 1, 1), (70, .iconst 1, 1), (71, .if_icmp .ne 7, 3), (74, .iload_n 2, 1), (75, .goto 7, 3), (78, .aload_n 0, 1), (79, .getfield 26, 3), (82, .putfield 26, 3), (85, .iload_n 3, 1), (86, .ireturn, 1)]
theorem dX11_stands_1 : ∀ q ∈ tX11_stands_1, decode cX11_stands q.1 = .ok q.2 := by decide +kernel
def tX11_set_0 : List (Nat × Instr × Nat) := [(0, .aload_n 0, 1), (1, .iconst 0, 1), (2, .putfield 87, 3), (5, .iload_n 1, 1), (6, .i2l, 1), (7, .lconst 0, 1), (8, .ldc2_w 208, 3), (11, .invokestatic 92, 3), (14, .ifCond .eq 24, 3), (17, .iload_n 2, 1), (18, .i2l, 1), (19, .lconst 0, 1), (20, .iload_n 1, 1), (21, .iconst 2, 1), (22, .if_icmp .ne 7, 3), (25, .lconst 1, 1), (26, .goto 6, 3), (29, .ldc2_w 210, 3), (32, .invokestatic 92, 3), (35, .ifCond .ne 5, 3), (38, .iconst (-1), 1), (39, .ireturn, 1), (40, .iload_n 1, 1), (41, .ifCond .ne 10, 3), (44, .aload_n 0, 1), (45, .getfield 16, 3), (48, .goto 19, 3), (51, .iload_n 1, 1), (52, .iconst 1, 1), (53, .if_icmp .ne 10, 3), (56, .aload_n 0, 1), (57, .getfield 20, 3)]
theorem dX11_set_0 : ∀ q ∈ tX11_set_0, decode cX11_set q.1 = .ok q.2 := by decide +kernel
def tX11_set_1 : List (Nat × Instr × Nat) := [(60, .goto 7, 3), (63, .aload_n 0, 1), (64, .getfield 96, 3), (67, .istore_n 3, 1), (68, .aload_n 0, 1), (69, .iload_n 1, 1), (70, .ifCond .ne 7, 3), (73, .iload_n 2, 1), (74, .goto 7, 3), (77, .aload_n 0, 1), (78, .getfield 16, 3), (81, .putfield 16, 3), (84, .aload_n 0, 1), (85, .iload_n 1, 1), (86, .iconst 1, 1), (87, .if_icmp .ne 7, 3), (90, .iload_n 2, 1), (91, .goto 7, 3), (94, .aload_n 0, 1), (95, .getfield 20, 3), (98, .putfield 20, 3), (101, .aload_n 0, 1), (102, .iload_n 1, 1), (103, .iconst 2, 1), (104, .if_icmp .ne 7, 3), (107, .iload_n 2, 1), (108, .goto 7, 3), (111, .aload_n 0, 1), (112, .getfield 96, 3), (115, .putfield 96, 3), (118, .iload_n 3, 1), (119, .ireturn, 1)]
theorem dX11_set_1 : ∀ q ∈ tX11_set_1, decode cX11_set q.1 = .ok q.2 := by decide +kernel
def tX11_go_0 : List (Nat × Instr × Nat) := [(0, .aload_n 0, 1), (1, .iconst 0, 1), (2, .putfield 87, 3), (5, .iload_n 1, 1), (6, .i2l, 1), (7, .lconst 0, 1), (8, .ldc2_w 212, 3), (11, .invokestatic 92, 3), (14, .ifCond .eq 15, 3), (17, .iload_n 2, 1), (18, .i2l, 1), (19, .lconst 0, 1), (20, .ldc2_w 212, 3), (23, .invokestatic 92, 3), (26, .ifCond .ne 5, 3), (29, .iconst (-1), 1), (30, .ireturn, 1), (31, .aload_n 0, 1), (32, .iload_n 1, 1), (33, .iload_n 2, 1), (34, .invokevirtual 160, 3), (37, .ifCond .ne 6, 3), (40, .bipush (-3), 2), (42, .ireturn, 1), (43, .aload_n 0, 1), (44, .iload_n 1, 1), (45, .iload_n 2, 1), (46, .invokevirtual 164, 3), (49, .aload_n 0, 1), (50, .aload_n 0, 1), (51, .getfield 23, 3), (54, .aload_n 0, 1)]
theorem dX11_go_0 : ∀ q ∈ tX11_go_0, decode cX11_go q.1 = .ok q.2 := by decide +kernel
def tX11_go_1 : List (Nat × Instr × Nat) := [(55, .getfield 26, 3), (58, .invokevirtual 106, 3), (61, .ireturn, 1)]
theorem dX11_go_1 : ∀ q ∈ tX11_go_1, decode cX11_go q.1 = .ok q.2 := by decide +kernel
def tX11_far_0 : List (Nat × Instr × Nat) := [(0, .aload_n 0, 1), (1, .iconst 0, 1), (2, .putfield 87, 3), (5, .iload_n 1, 1), (6, .i2l, 1), (7, .invokestatic 196, 3), (10, .ifCond .eq 20, 3), (13, .iload_n 2, 1), (14, .i2l, 1), (15, .invokestatic 196, 3), (18, .ifCond .eq 12, 3), (21, .aload_n 0, 1), (22, .iload_n 1, 1), (23, .iload_n 2, 1), (24, .invokevirtual 106, 3), (27, .goto 4, 3), (30, .iconst (-1), 1), (31, .ireturn, 1)]
theorem dX11_far_0 : ∀ q ∈ tX11_far_0, decode cX11_far q.1 = .ok q.2 := by decide +kernel
def tX11_layStepsFrom_0 : List (Nat × Instr × Nat) := [(0, .iconst 0, 1), (1, .istore_n 2, 1), (2, .iload_n 2, 1), (3, .bipush 36, 2), (5, .if_icmp .ge 17, 3), (8, .aload_n 0, 1), (9, .getfield 66, 3), (12, .iload_n 2, 1), (13, .bipush 99, 2), (15, .iastore, 1), (16, .iinc 2 1, 3), (19, .goto (-17), 3), (22, .lconst 1, 1), (23, .iload_n 1, 1), (24, .lshl, 1), (25, .aload_n 0, 1), (26, .invokevirtual 214, 3), (29, .land, 1), (30, .lstore_n 2, 1), (31, .iconst 0, 1), (32, .istore 4, 2), (34, .iload 4, 2), (36, .bipush 36, 2), (38, .if_icmp .ge 71, 3), (41, .iconst 0, 1), (42, .istore 5, 2), (44, .iload 5, 2), (46, .bipush 36, 2), (48, .if_icmp .ge 49, 3), (51, .aload_n 0, 1), (52, .getfield 66, 3), (55, .iload 5, 2)]
theorem dX11_layStepsFrom_0 : ∀ q ∈ tX11_layStepsFrom_0, decode cX11_layStepsFrom q.1 = .ok q.2 := by decide +kernel
def tX11_layStepsFrom_1 : List (Nat × Instr × Nat) := [(57, .lload_n 2, 1), (58, .iload 5, 2), (60, .invokestatic 117, 3), (63, .ifCond .eq 20, 3), (66, .aload_n 0, 1), (67, .getfield 66, 3), (70, .iload 5, 2), (72, .iaload, 1), (73, .iload 4, 2), (75, .if_icmp .le 8, 3), (78, .iload 4, 2), (80, .goto 10, 3), (83, .aload_n 0, 1), (84, .getfield 66, 3), (87, .iload 5, 2), (89, .iaload, 1), (90, .iastore, 1), (91, .iinc 5 1, 3), (94, .goto (-50), 3), (97, .aload_n 0, 1), (98, .lload_n 2, 1), (99, .invokevirtual 218, 3), (102, .lstore_n 2, 1), (103, .iinc 4 1, 3), (106, .goto (-72), 3), (109, .return_, 1)]
theorem dX11_layStepsFrom_1 : ∀ q ∈ tX11_layStepsFrom_1, decode cX11_layStepsFrom q.1 = .ok q.2 := by decide +kernel
def tX11_steps_0 : List (Nat × Instr × Nat) := [(0, .aload_n 0, 1), (1, .iconst 0, 1), (2, .putfield 87, 3), (5, .iload_n 1, 1), (6, .i2l, 1), (7, .invokestatic 196, 3), (10, .ifCond .eq 11, 3), (13, .iload_n 2, 1), (14, .i2l, 1), (15, .invokestatic 196, 3), (18, .ifCond .ne 5, 3), (21, .iconst (-1), 1), (22, .ireturn, 1), (23, .aload_n 0, 1), (24, .iload_n 1, 1), (25, .invokevirtual 222, 3), (28, .aload_n 0, 1), (29, .getfield 66, 3), (32, .iload_n 2, 1), (33, .iaload, 1), (34, .bipush 99, 2), (36, .if_icmp .ge 12, 3), (39, .aload_n 0, 1), (40, .getfield 66, 3), (43, .iload_n 2, 1), (44, .iaload, 1), (45, .goto 5, 3), (48, .bipush (-4), 2), (50, .ireturn, 1)]
theorem dX11_steps_0 : ∀ q ∈ tX11_steps_0, decode cX11_steps q.1 = .ok q.2 := by decide +kernel
def tX11_isPair_0 : List (Nat × Instr × Nat) := [(0, .aload_n 0, 1), (1, .iload_n 1, 1), (2, .invokevirtual 113, 3), (5, .ifCond .eq 24, 3), (8, .aload_n 0, 1), (9, .iload_n 2, 1), (10, .invokevirtual 113, 3), (13, .ifCond .eq 16, 3), (16, .aload_n 0, 1), (17, .iload_n 1, 1), (18, .iload_n 2, 1), (19, .invokevirtual 226, 3), (22, .ifCond .ne 7, 3), (25, .iconst 1, 1), (26, .goto 4, 3), (29, .iconst 0, 1), (30, .ireturn, 1)]
theorem dX11_isPair_0 : ∀ q ∈ tX11_isPair_0, decode cX11_isPair q.1 = .ok q.2 := by decide +kernel
def tX11_pairMany_0 : List (Nat × Instr × Nat) := [(0, .iconst 0, 1), (1, .istore_n 1, 1), (2, .iconst 0, 1), (3, .istore_n 2, 1), (4, .iload_n 2, 1), (5, .sipush 1296, 3), (8, .if_icmp .ge 32, 3), (11, .iload_n 1, 1), (12, .aload_n 0, 1), (13, .iload_n 2, 1), (14, .bipush 36, 2), (16, .idiv, 1), (17, .iload_n 2, 1), (18, .bipush 36, 2), (20, .irem, 1), (21, .invokevirtual 229, 3), (24, .ifCond .eq 7, 3), (27, .iconst 1, 1), (28, .goto 4, 3), (31, .iconst 0, 1), (32, .iadd, 1), (33, .istore_n 1, 1), (34, .iinc 2 1, 3), (37, .goto (-33), 3), (40, .iload_n 1, 1), (41, .ireturn, 1)]
theorem dX11_pairMany_0 : ∀ q ∈ tX11_pairMany_0, decode cX11_pairMany q.1 = .ok q.2 := by decide +kernel
def tX11_pairs_0 : List (Nat × Instr × Nat) := [(0, .aload_n 0, 1), (1, .iconst 0, 1), (2, .putfield 87, 3), (5, .iload_n 1, 1), (6, .iconst (-1), 1), (7, .if_icmp .ge 5, 3), (10, .iconst (-1), 1), (11, .ireturn, 1), (12, .iload_n 1, 1), (13, .ifCond .ge 8, 3), (16, .aload_n 0, 1), (17, .invokevirtual 232, 3), (20, .ireturn, 1), (21, .iload_n 1, 1), (22, .istore_n 2, 1), (23, .iconst 0, 1), (24, .istore_n 3, 1), (25, .iload_n 3, 1), (26, .sipush 1296, 3), (29, .if_icmp .ge 44, 3), (32, .aload_n 0, 1), (33, .iload_n 3, 1), (34, .bipush 36, 2), (36, .idiv, 1), (37, .iload_n 3, 1), (38, .bipush 36, 2), (40, .irem, 1), (41, .invokevirtual 229, 3), (44, .ifCond .eq 23, 3), (47, .iload_n 2, 1), (48, .ifCond .ne 16, 3), (51, .bipush 100, 2)]
theorem dX11_pairs_0 : ∀ q ∈ tX11_pairs_0, decode cX11_pairs q.1 = .ok q.2 := by decide +kernel
def tX11_pairs_1 : List (Nat × Instr × Nat) := [(53, .iload_n 3, 1), (54, .bipush 36, 2), (56, .idiv, 1), (57, .imul, 1), (58, .iload_n 3, 1), (59, .bipush 36, 2), (61, .irem, 1), (62, .iadd, 1), (63, .ireturn, 1), (64, .iinc 2 (-1), 3), (67, .iinc 3 1, 3), (70, .goto (-45), 3), (73, .bipush (-4), 2), (75, .ireturn, 1)]
theorem dX11_pairs_1 : ∀ q ∈ tX11_pairs_1, decode cX11_pairs q.1 = .ok q.2 := by decide +kernel
def tX11_partWith_0 : List (Nat × Instr × Nat) := [(0, .aload_n 0, 1), (1, .iload_n 1, 1), (2, .invokevirtual 222, 3), (5, .lconst 0, 1), (6, .lstore_n 2, 1), (7, .iconst 0, 1), (8, .istore 4, 2), (10, .iload 4, 2), (12, .bipush 36, 2), (14, .if_icmp .ge 32, 3), (17, .lload_n 2, 1), (18, .aload_n 0, 1), (19, .getfield 66, 3), (22, .iload 4, 2), (24, .iaload, 1), (25, .bipush 99, 2), (27, .if_icmp .ge 10, 3), (30, .lconst 1, 1), (31, .iload 4, 2), (33, .lshl, 1), (34, .goto 4, 3), (37, .lconst 0, 1), (38, .lor, 1), (39, .lstore_n 2, 1), (40, .iinc 4 1, 3), (43, .goto (-33), 3), (46, .lload_n 2, 1), (47, .lreturn, 1)]
theorem dX11_partWith_0 : ∀ q ∈ tX11_partWith_0, decode cX11_partWith q.1 = .ok q.2 := by decide +kernel
def tX11_islands_0 : List (Nat × Instr × Nat) := [(0, .aload_n 0, 1), (1, .iconst 0, 1), (2, .putfield 87, 3), (5, .iconst 0, 1), (6, .istore_n 1, 1), (7, .lconst 0, 1), (8, .lstore_n 2, 1), (9, .iconst 0, 1), (10, .istore 4, 2), (12, .iload 4, 2), (14, .bipush 36, 2), (16, .if_icmp .ge 39, 3), (19, .aload_n 0, 1), (20, .iload 4, 2), (22, .invokevirtual 113, 3), (25, .ifCond .eq 24, 3), (28, .lload_n 2, 1), (29, .iload 4, 2), (31, .invokestatic 117, 3), (34, .ifCond .ne 15, 3), (37, .lload_n 2, 1), (38, .aload_n 0, 1), (39, .iload 4, 2), (41, .invokevirtual 235, 3), (44, .lor, 1), (45, .lstore_n 2, 1), (46, .iinc 1 1, 3), (49, .iinc 4 1, 3), (52, .goto (-40), 3), (55, .iload_n 1, 1), (56, .ireturn, 1)]
theorem dX11_islands_0 : ∀ q ∈ tX11_islands_0, decode cX11_islands q.1 = .ok q.2 := by decide +kernel
def tX11_island_0 : List (Nat × Instr × Nat) := [(0, .aload_n 0, 1), (1, .iconst 0, 1), (2, .putfield 87, 3), (5, .iload_n 1, 1), (6, .i2l, 1), (7, .invokestatic 196, 3), (10, .ifCond .ne 5, 3), (13, .iconst (-1), 1), (14, .ireturn, 1), (15, .aload_n 0, 1), (16, .iload_n 1, 1), (17, .invokevirtual 113, 3), (20, .ifCond .eq 14, 3), (23, .aload_n 0, 1), (24, .iload_n 1, 1), (25, .invokevirtual 235, 3), (28, .invokestatic 239, 3), (31, .goto 5, 3), (34, .bipush (-3), 2), (36, .ireturn, 1)]
theorem dX11_island_0 : ∀ q ∈ tX11_island_0, decode cX11_island q.1 = .ok q.2 := by decide +kernel
def tX11_middle_0 : List (Nat × Instr × Nat) := [(0, .aload_n 0, 1), (1, .iconst 0, 1), (2, .putfield 87, 3), (5, .iload_n 1, 1), (6, .i2l, 1), (7, .lconst 0, 1), (8, .lconst 1, 1), (9, .invokestatic 92, 3), (12, .ifCond .ne 5, 3), (15, .iconst (-1), 1), (16, .ireturn, 1), (17, .lconst 0, 1), (18, .lstore_n 2, 1), (19, .iconst 0, 1), (20, .istore 4, 2), (22, .iload 4, 2), (24, .bipush 36, 2), (26, .if_icmp .ge 36, 3), (29, .aload_n 0, 1), (30, .iload 4, 2), (32, .invokevirtual 235, 3), (35, .lstore 5, 2), (37, .lload 5, 2), (39, .invokestatic 239, 3), (42, .lload_n 2, 1), (43, .invokestatic 239, 3), (46, .if_icmp .le 8, 3), (49, .lload 5, 2), (51, .goto 4, 3), (54, .lload_n 2, 1), (55, .lstore_n 2, 1), (56, .iinc 4 1, 3)]
theorem dX11_middle_0 : ∀ q ∈ tX11_middle_0, decode cX11_middle q.1 = .ok q.2 := by decide +kernel
def tX11_middle_1 : List (Nat × Instr × Nat) := [(59, .goto (-37), 3), (62, .bipush (-4), 2), (64, .istore 4, 2), (66, .bipush (-4), 2), (68, .istore 5, 2), (70, .iconst 0, 1), (71, .istore 6, 2), (73, .iload 6, 2), (75, .bipush 36, 2), (77, .if_icmp .ge 128, 3), (80, .lload_n 2, 1), (81, .iload 6, 2), (83, .invokestatic 117, 3), (86, .ifCond .eq 113, 3), (89, .aload_n 0, 1), (90, .iload 6, 2), (92, .invokevirtual 222, 3), (95, .iconst 0, 1), (96, .istore 7, 2), (98, .iconst 0, 1), (99, .istore 8, 2), (101, .iload 8, 2), (103, .bipush 36, 2), (105, .if_icmp .ge 47, 3), (108, .aload_n 0, 1), (109, .getfield 66, 3), (112, .iload 8, 2), (114, .iaload, 1), (115, .bipush 99, 2), (117, .if_icmp .ge 25, 3), (120, .aload_n 0, 1), (121, .getfield 66, 3)]
theorem dX11_middle_1 : ∀ q ∈ tX11_middle_1, decode cX11_middle q.1 = .ok q.2 := by decide +kernel
def tX11_middle_2 : List (Nat × Instr × Nat) := [(124, .iload 8, 2), (126, .iaload, 1), (127, .iload 7, 2), (129, .if_icmp .le 13, 3), (132, .aload_n 0, 1), (133, .getfield 66, 3), (136, .iload 8, 2), (138, .iaload, 1), (139, .goto 5, 3), (142, .iload 7, 2), (144, .istore 7, 2), (146, .iinc 8 1, 3), (149, .goto (-48), 3), (152, .iload 4, 2), (154, .ifCond .lt 10, 3), (157, .iload 7, 2), (159, .iload 5, 2), (161, .if_icmp .ge 7, 3), (164, .iconst 1, 1), (165, .goto 4, 3), (168, .iconst 0, 1), (169, .istore 8, 2), (171, .iload 8, 2), (173, .ifCond .eq 8, 3), (176, .iload 6, 2), (178, .goto 5, 3), (181, .iload 4, 2), (183, .istore 4, 2), (185, .iload 8, 2), (187, .ifCond .eq 8, 3), (190, .iload 7, 2), (192, .goto 5, 3)]
theorem dX11_middle_2 : ∀ q ∈ tX11_middle_2, decode cX11_middle q.1 = .ok q.2 := by decide +kernel
def tX11_middle_3 : List (Nat × Instr × Nat) := [(195, .iload 5, 2), (197, .istore 5, 2), (199, .iinc 6 1, 3), (202, .goto (-129), 3), (205, .iload_n 1, 1), (206, .ifCond .ne 8, 3), (209, .iload 4, 2), (211, .goto 5, 3), (214, .iload 5, 2), (216, .ireturn, 1)]
theorem dX11_middle_3 : ∀ q ∈ tX11_middle_3, decode cX11_middle q.1 = .ok q.2 := by decide +kernel
def tX11_layDaysFrom_0 : List (Nat × Instr × Nat) := [(0, .iconst 0, 1), (1, .istore_n 3, 1), (2, .iload_n 3, 1), (3, .sipush 1296, 3), (6, .if_icmp .ge 18, 3), (9, .aload_n 0, 1), (10, .getfield 69, 3), (13, .iload_n 3, 1), (14, .sipush 9999, 3), (17, .iastore, 1), (18, .iinc 3 1, 3), (21, .goto (-19), 3), (24, .aload_n 0, 1), (25, .iload_n 1, 1), (26, .iload_n 2, 1), (27, .invokevirtual 229, 3), (30, .ifCond .ne 4, 3), (33, .return_, 1), (34, .aload_n 0, 1), (35, .getfield 69, 3), (38, .bipush 36, 2), (40, .iload_n 1, 1), (41, .imul, 1), (42, .iload_n 2, 1), (43, .iadd, 1), (44, .iconst 0, 1), (45, .iastore, 1), (46, .aload_n 0, 1), (47, .getfield 72, 3), (50, .iconst 0, 1), (51, .bipush 36, 2), (53, .iload_n 1, 1)]
theorem dX11_layDaysFrom_0 : ∀ q ∈ tX11_layDaysFrom_0, decode cX11_layDaysFrom q.1 = .ok q.2 := by decide +kernel
def tX11_layDaysFrom_1 : List (Nat × Instr × Nat) := [(54, .imul, 1), (55, .iload_n 2, 1), (56, .iadd, 1), (57, .iastore, 1), (58, .iconst 1, 1), (59, .istore_n 3, 1), (60, .iconst 0, 1), (61, .istore 4, 2), (63, .iload 4, 2), (65, .iload_n 3, 1), (66, .if_icmp .ge 149, 3), (69, .iconst 0, 1), (70, .istore 5, 2), (72, .iload 5, 2), (74, .bipush 25, 2), (76, .if_icmp .ge 133, 3), (79, .aload_n 0, 1), (80, .aload_n 0, 1), (81, .getfield 72, 3), (84, .iload 4, 2), (86, .iaload, 1), (87, .bipush 36, 2), (89, .idiv, 1), (90, .iload 5, 2), (92, .iconst 5, 1), (93, .idiv, 1), (94, .invokevirtual 121, 3), (97, .istore 6, 2), (99, .aload_n 0, 1), (100, .aload_n 0, 1), (101, .getfield 72, 3), (104, .iload 4, 2)]
theorem dX11_layDaysFrom_1 : ∀ q ∈ tX11_layDaysFrom_1, decode cX11_layDaysFrom q.1 = .ok q.2 := by decide +kernel
def tX11_layDaysFrom_2 : List (Nat × Instr × Nat) := [(106, .iaload, 1), (107, .bipush 36, 2), (109, .irem, 1), (110, .iload 5, 2), (112, .iconst 5, 1), (113, .irem, 1), (114, .invokevirtual 121, 3), (117, .istore 7, 2), (119, .iload 6, 2), (121, .ifCond .lt 82, 3), (124, .iload 7, 2), (126, .ifCond .lt 77, 3), (129, .aload_n 0, 1), (130, .getfield 69, 3), (133, .bipush 36, 2), (135, .iload 6, 2), (137, .imul, 1), (138, .iload 7, 2), (140, .iadd, 1), (141, .iaload, 1), (142, .sipush 9999, 3), (145, .if_icmp .ne 58, 3), (148, .aload_n 0, 1), (149, .iload 6, 2), (151, .iload 7, 2), (153, .invokevirtual 229, 3), (156, .ifCond .eq 47, 3), (159, .aload_n 0, 1), (160, .getfield 69, 3), (163, .bipush 36, 2), (165, .iload 6, 2), (167, .imul, 1)]
theorem dX11_layDaysFrom_2 : ∀ q ∈ tX11_layDaysFrom_2, decode cX11_layDaysFrom q.1 = .ok q.2 := by decide +kernel
def tX11_layDaysFrom_3 : List (Nat × Instr × Nat) := [(168, .iload 7, 2), (170, .iadd, 1), (171, .aload_n 0, 1), (172, .getfield 69, 3), (175, .aload_n 0, 1), (176, .getfield 72, 3), (179, .iload 4, 2), (181, .iaload, 1), (182, .iaload, 1), (183, .iconst 1, 1), (184, .iadd, 1), (185, .iastore, 1), (186, .aload_n 0, 1), (187, .getfield 72, 3), (190, .iload_n 3, 1), (191, .bipush 36, 2), (193, .iload 6, 2), (195, .imul, 1), (196, .iload 7, 2), (198, .iadd, 1), (199, .iastore, 1), (200, .iinc 3 1, 3), (203, .iinc 5 1, 3), (206, .goto (-134), 3), (209, .iinc 4 1, 3), (212, .goto (-149), 3), (215, .return_, 1)]
theorem dX11_layDaysFrom_3 : ∀ q ∈ tX11_layDaysFrom_3, decode cX11_layDaysFrom q.1 = .ok q.2 := by decide +kernel
def tX11_areBoth_0 : List (Nat × Instr × Nat) := [(0, .aload_n 0, 1), (1, .getfield 23, 3), (4, .ifCond .lt 14, 3), (7, .aload_n 0, 1), (8, .getfield 26, 3), (11, .ifCond .lt 7, 3), (14, .iconst 1, 1), (15, .goto 4, 3), (18, .iconst 0, 1), (19, .ireturn, 1)]
theorem dX11_areBoth_0 : ∀ q ∈ tX11_areBoth_0, decode cX11_areBoth q.1 = .ok q.2 := by decide +kernel
def tX11_wrongTwo_0 : List (Nat × Instr × Nat) := [(0, .iload_n 1, 1), (1, .i2l, 1), (2, .invokestatic 196, 3), (5, .ifCond .eq 11, 3), (8, .iload_n 2, 1), (9, .i2l, 1), (10, .invokestatic 196, 3), (13, .ifCond .ne 7, 3), (16, .iconst (-1), 1), (17, .goto 16, 3), (20, .aload_n 0, 1), (21, .invokevirtual 243, 3), (24, .ifCond .eq 7, 3), (27, .iconst 0, 1), (28, .goto 5, 3), (31, .bipush (-3), 2), (33, .ireturn, 1)]
theorem dX11_wrongTwo_0 : ∀ q ∈ tX11_wrongTwo_0, decode cX11_wrongTwo q.1 = .ok q.2 := by decide +kernel
def tX11_seeDays_0 : List (Nat × Instr × Nat) := [(0, .aload_n 0, 1), (1, .iload_n 1, 1), (2, .iload_n 2, 1), (3, .invokevirtual 247, 3), (6, .aload_n 0, 1), (7, .aload_n 0, 1), (8, .getfield 23, 3), (11, .aload_n 0, 1), (12, .getfield 26, 3), (15, .invokevirtual 229, 3), (18, .ifCond .eq 23, 3), (21, .aload_n 0, 1), (22, .getfield 69, 3), (25, .bipush 36, 2), (27, .aload_n 0, 1), (28, .getfield 23, 3), (31, .imul, 1), (32, .aload_n 0, 1), (33, .getfield 26, 3), (36, .iadd, 1), (37, .iaload, 1), (38, .goto 6, 3), (41, .sipush 9999, 3), (44, .istore_n 3, 1), (45, .iload_n 3, 1), (46, .sipush 9999, 3), (49, .if_icmp .ge 7, 3), (52, .iload_n 3, 1), (53, .goto 5, 3), (56, .bipush (-4), 2), (58, .ireturn, 1)]
theorem dX11_seeDays_0 : ∀ q ∈ tX11_seeDays_0, decode cX11_seeDays q.1 = .ok q.2 := by decide +kernel
def tX11_see_0 : List (Nat × Instr × Nat) := [(0, .aload_n 0, 1), (1, .iconst 0, 1), (2, .putfield 87, 3), (5, .aload_n 0, 1), (6, .iload_n 1, 1), (7, .iload_n 2, 1), (8, .invokevirtual 250, 3), (11, .ifCond .ge 12, 3), (14, .aload_n 0, 1), (15, .iload_n 1, 1), (16, .iload_n 2, 1), (17, .invokevirtual 250, 3), (20, .goto 9, 3), (23, .aload_n 0, 1), (24, .iload_n 1, 1), (25, .iload_n 2, 1), (26, .invokevirtual 253, 3), (29, .ireturn, 1)]
theorem dX11_see_0 : ∀ q ∈ tX11_see_0, decode cX11_see q.1 = .ok q.2 := by decide +kernel
def tX11_way_0 : List (Nat × Instr × Nat) := [(0, .aload_n 0, 1), (1, .iconst 0, 1), (2, .putfield 87, 3), (5, .iload_n 3, 1), (6, .ifCond .ge 7, 3), (9, .iconst (-1), 1), (10, .goto 9, 3), (13, .aload_n 0, 1), (14, .iload_n 1, 1), (15, .iload_n 2, 1), (16, .invokevirtual 250, 3), (19, .istore 4, 2), (21, .iload 4, 2), (23, .ifCond .ge 6, 3), (26, .iload 4, 2), (28, .ireturn, 1), (29, .aload_n 0, 1), (30, .iload_n 1, 1), (31, .iload_n 2, 1), (32, .invokevirtual 253, 3), (35, .istore 5, 2), (37, .iload_n 3, 1), (38, .iload 5, 2), (40, .if_icmp .le 6, 3), (43, .bipush (-4), 2), (45, .ireturn, 1), (46, .aload_n 0, 1), (47, .getfield 23, 3), (50, .istore 6, 2), (52, .aload_n 0, 1), (53, .getfield 26, 3), (56, .istore 7, 2)]
theorem dX11_way_0 : ∀ q ∈ tX11_way_0, decode cX11_way q.1 = .ok q.2 := by decide +kernel
def tX11_way_1 : List (Nat × Instr × Nat) := [(58, .iconst 0, 1), (59, .istore 8, 2), (61, .iload 8, 2), (63, .iload_n 3, 1), (64, .if_icmp .ge 144, 3), (67, .iconst (-1), 1), (68, .istore 9, 2), (70, .iconst 0, 1), (71, .istore 10, 2), (73, .iload 10, 2), (75, .bipush 25, 2), (77, .if_icmp .ge 111, 3), (80, .aload_n 0, 1), (81, .iload 6, 2), (83, .iload 10, 2), (85, .iconst 5, 1), (86, .idiv, 1), (87, .invokevirtual 121, 3), (90, .istore 11, 2), (92, .aload_n 0, 1), (93, .iload 7, 2), (95, .iload 10, 2), (97, .iconst 5, 1), (98, .irem, 1), (99, .invokevirtual 121, 3), (102, .istore 12, 2), (104, .iload 11, 2), (106, .ifCond .lt 35, 3), (109, .iload 12, 2), (111, .ifCond .lt 30, 3), (114, .aload_n 0, 1), (115, .getfield 69, 3)]
theorem dX11_way_1 : ∀ q ∈ tX11_way_1, decode cX11_way q.1 = .ok q.2 := by decide +kernel
def tX11_way_2 : List (Nat × Instr × Nat) := [(118, .bipush 36, 2), (120, .iload 11, 2), (122, .imul, 1), (123, .iload 12, 2), (125, .iadd, 1), (126, .iaload, 1), (127, .iload 5, 2), (129, .iload 8, 2), (131, .isub, 1), (132, .iconst 1, 1), (133, .isub, 1), (134, .if_icmp .ne 7, 3), (137, .iconst 1, 1), (138, .goto 4, 3), (141, .iconst 0, 1), (142, .istore 13, 2), (144, .iload 13, 2), (146, .ifCond .eq 32, 3), (149, .iload 9, 2), (151, .ifCond .lt 16, 3), (154, .bipush 36, 2), (156, .iload 11, 2), (158, .imul, 1), (159, .iload 12, 2), (161, .iadd, 1), (162, .iload 9, 2), (164, .if_icmp .ge 14, 3), (167, .bipush 36, 2), (169, .iload 11, 2), (171, .imul, 1), (172, .iload 12, 2), (174, .iadd, 1)]
theorem dX11_way_2 : ∀ q ∈ tX11_way_2, decode cX11_way q.1 = .ok q.2 := by decide +kernel
def tX11_way_3 : List (Nat × Instr × Nat) := [(175, .goto 5, 3), (178, .iload 9, 2), (180, .istore 9, 2), (182, .iinc 10 1, 3), (185, .goto (-112), 3), (188, .iload 9, 2), (190, .bipush 36, 2), (192, .idiv, 1), (193, .istore 6, 2), (195, .iload 9, 2), (197, .bipush 36, 2), (199, .irem, 1), (200, .istore 7, 2), (202, .iinc 8 1, 3), (205, .goto (-144), 3), (208, .bipush 100, 2), (210, .iload 6, 2), (212, .imul, 1), (213, .iload 7, 2), (215, .iadd, 1), (216, .ireturn, 1)]
theorem dX11_way_3 : ∀ q ∈ tX11_way_3, decode cX11_way q.1 = .ok q.2 := by decide +kernel
def tX11_hinders_0 : List (Nat × Instr × Nat) := [(0, .aload_n 0, 1), (1, .iconst 0, 1), (2, .putfield 87, 3), (5, .aload_n 0, 1), (6, .iload_n 1, 1), (7, .iload_n 2, 1), (8, .invokevirtual 250, 3), (11, .ifCond .ge 10, 3), (14, .aload_n 0, 1), (15, .iload_n 1, 1), (16, .iload_n 2, 1), (17, .invokevirtual 250, 3), (20, .ireturn, 1), (21, .aload_n 0, 1), (22, .iload_n 1, 1), (23, .iload_n 2, 1), (24, .invokevirtual 253, 3), (27, .ifCond .lt 6, 3), (30, .bipush (-4), 2), (32, .ireturn, 1), (33, .bipush (-4), 2), (35, .istore_n 3, 1), (36, .sipush 9999, 3), (39, .istore 4, 2), (41, .iconst 0, 1), (42, .istore 5, 2), (44, .iload 5, 2), (46, .bipush 36, 2), (48, .if_icmp .ge 78, 3), (51, .aload_n 0, 1), (52, .iload 5, 2), (54, .invokevirtual 113, 3)]
theorem dX11_hinders_0 : ∀ q ∈ tX11_hinders_0, decode cX11_hinders q.1 = .ok q.2 := by decide +kernel
def tX11_hinders_1 : List (Nat × Instr × Nat) := [(57, .ifCond .ne 63, 3), (60, .aload_n 0, 1), (61, .iload 5, 2), (63, .putfield 48, 3), (66, .aload_n 0, 1), (67, .iload_n 1, 1), (68, .iload_n 2, 1), (69, .invokevirtual 253, 3), (72, .istore 6, 2), (74, .aload_n 0, 1), (75, .bipush (-4), 2), (77, .putfield 48, 3), (80, .iload 6, 2), (82, .ifCond .lt 15, 3), (85, .iload 6, 2), (87, .iload 4, 2), (89, .if_icmp .ge 8, 3), (92, .iload 5, 2), (94, .goto 4, 3), (97, .iload_n 3, 1), (98, .istore_n 3, 1), (99, .iload 6, 2), (101, .ifCond .lt 15, 3), (104, .iload 6, 2), (106, .iload 4, 2), (108, .if_icmp .ge 8, 3), (111, .iload 6, 2), (113, .goto 5, 3), (116, .iload 4, 2), (118, .istore 4, 2), (120, .iinc 5 1, 3), (123, .goto (-79), 3)]
theorem dX11_hinders_1 : ∀ q ∈ tX11_hinders_1, decode cX11_hinders q.1 = .ok q.2 := by decide +kernel
def tX11_hinders_2 : List (Nat × Instr × Nat) := [(126, .iload_n 3, 1), (127, .ireturn, 1)]
theorem dX11_hinders_2 : ∀ q ∈ tX11_hinders_2, decode cX11_hinders q.1 = .ok q.2 := by decide +kernel
def tX11_needs_0 : List (Nat × Instr × Nat) := [(0, .aload_n 0, 1), (1, .iconst 0, 1), (2, .putfield 87, 3), (5, .aload_n 0, 1), (6, .iload_n 1, 1), (7, .iload_n 2, 1), (8, .invokevirtual 250, 3), (11, .ifCond .ge 10, 3), (14, .aload_n 0, 1), (15, .iload_n 1, 1), (16, .iload_n 2, 1), (17, .invokevirtual 250, 3), (20, .ireturn, 1), (21, .aload_n 0, 1), (22, .getfield 20, 3), (25, .istore_n 3, 1), (26, .bipush (-4), 2), (28, .istore 4, 2), (30, .aload_n 0, 1), (31, .iconst 0, 1), (32, .putfield 20, 3), (35, .aload_n 0, 1), (36, .getfield 20, 3), (39, .bipush 20, 2), (41, .if_icmp .gt 41, 3), (44, .iload 4, 2), (46, .ifCond .ge 36, 3), (49, .aload_n 0, 1), (50, .iload_n 1, 1), (51, .iload_n 2, 1), (52, .invokevirtual 253, 3), (55, .ifCond .lt 10, 3)]
theorem dX11_needs_0 : ∀ q ∈ tX11_needs_0, decode cX11_needs q.1 = .ok q.2 := by decide +kernel
def tX11_needs_1 : List (Nat × Instr × Nat) := [(58, .aload_n 0, 1), (59, .getfield 20, 3), (62, .goto 5, 3), (65, .bipush (-4), 2), (67, .istore 4, 2), (69, .aload_n 0, 1), (70, .dup, 1), (71, .getfield 20, 3), (74, .iconst 1, 1), (75, .iadd, 1), (76, .putfield 20, 3), (79, .goto (-44), 3), (82, .aload_n 0, 1), (83, .iload_n 3, 1), (84, .putfield 20, 3), (87, .iload 4, 2), (89, .ireturn, 1)]
theorem dX11_needs_1 : ∀ q ∈ tX11_needs_1, decode cX11_needs q.1 = .ok q.2 := by decide +kernel
def tX11_within_0 : List (Nat × Instr × Nat) := [(0, .aload_n 0, 1), (1, .iconst 0, 1), (2, .putfield 87, 3), (5, .iload_n 1, 1), (6, .i2l, 1), (7, .lconst 0, 1), (8, .ldc2_w 256, 3), (11, .invokestatic 92, 3), (14, .ifCond .ne 5, 3), (17, .iconst (-1), 1), (18, .ireturn, 1), (19, .aload_n 0, 1), (20, .invokevirtual 243, 3), (23, .ifCond .ne 6, 3), (26, .bipush (-3), 2), (28, .ireturn, 1), (29, .aload_n 0, 1), (30, .aload_n 0, 1), (31, .getfield 23, 3), (34, .aload_n 0, 1), (35, .getfield 26, 3), (38, .invokevirtual 247, 3), (41, .iconst 0, 1), (42, .istore_n 2, 1), (43, .iconst 0, 1), (44, .istore_n 3, 1), (45, .iload_n 3, 1), (46, .sipush 1296, 3), (49, .if_icmp .ge 27, 3), (52, .iload_n 2, 1), (53, .aload_n 0, 1), (54, .getfield 69, 3)]
theorem dX11_within_0 : ∀ q ∈ tX11_within_0, decode cX11_within q.1 = .ok q.2 := by decide +kernel
def tX11_within_1 : List (Nat × Instr × Nat) := [(57, .iload_n 3, 1), (58, .iaload, 1), (59, .iload_n 1, 1), (60, .if_icmp .gt 7, 3), (63, .iconst 1, 1), (64, .goto 4, 3), (67, .iconst 0, 1), (68, .iadd, 1), (69, .istore_n 2, 1), (70, .iinc 3 1, 3), (73, .goto (-28), 3), (76, .iload_n 2, 1), (77, .ireturn, 1)]
theorem dX11_within_1 : ∀ q ∈ tX11_within_1, decode cX11_within q.1 = .ok q.2 := by decide +kernel
def tX11_layWays_0 : List (Nat × Instr × Nat) := [(0, .iconst 0, 1), (1, .istore_n 2, 1), (2, .iload_n 2, 1), (3, .sipush 1296, 3), (6, .if_icmp .ge 16, 3), (9, .aload_n 0, 1), (10, .getfield 75, 3), (13, .iload_n 2, 1), (14, .lconst 0, 1), (15, .lastore, 1), (16, .iinc 2 1, 3), (19, .goto (-17), 3), (22, .aload_n 0, 1), (23, .getfield 75, 3), (26, .bipush 36, 2), (28, .aload_n 0, 1), (29, .getfield 23, 3), (32, .imul, 1), (33, .aload_n 0, 1), (34, .getfield 26, 3), (37, .iadd, 1), (38, .aload_n 0, 1), (39, .aload_n 0, 1), (40, .getfield 23, 3), (43, .aload_n 0, 1), (44, .getfield 26, 3), (47, .invokevirtual 229, 3), (50, .ifCond .eq 7, 3), (53, .lconst 1, 1), (54, .goto 4, 3), (57, .lconst 0, 1), (58, .lastore, 1)]
theorem dX11_layWays_0 : ∀ q ∈ tX11_layWays_0, decode cX11_layWays q.1 = .ok q.2 := by decide +kernel
def tX11_layWays_1 : List (Nat × Instr × Nat) := [(59, .iconst 0, 1), (60, .istore_n 2, 1), (61, .iload_n 2, 1), (62, .iload_n 1, 1), (63, .if_icmp .ge 171, 3), (66, .iconst 0, 1), (67, .istore_n 3, 1), (68, .iload_n 3, 1), (69, .sipush 1296, 3), (72, .if_icmp .ge 16, 3), (75, .aload_n 0, 1), (76, .getfield 78, 3), (79, .iload_n 3, 1), (80, .lconst 0, 1), (81, .lastore, 1), (82, .iinc 3 1, 3), (85, .goto (-17), 3), (88, .iconst 0, 1), (89, .istore_n 3, 1), (90, .iload_n 3, 1), (91, .sipush 1296, 3), (94, .if_icmp .ge 107, 3), (97, .iconst 0, 1), (98, .istore 4, 2), (100, .iload 4, 2), (102, .bipush 25, 2), (104, .if_icmp .ge 91, 3), (107, .aload_n 0, 1), (108, .getfield 75, 3), (111, .iload_n 3, 1), (112, .laload, 1), (113, .lconst 0, 1)]
theorem dX11_layWays_1 : ∀ q ∈ tX11_layWays_1, decode cX11_layWays q.1 = .ok q.2 := by decide +kernel
def tX11_layWays_2 : List (Nat × Instr × Nat) := [(114, .lcmp, 1), (115, .ifCond .le 80, 3), (118, .aload_n 0, 1), (119, .iload_n 3, 1), (120, .bipush 36, 2), (122, .idiv, 1), (123, .iload 4, 2), (125, .iconst 5, 1), (126, .idiv, 1), (127, .invokevirtual 121, 3), (130, .istore 5, 2), (132, .aload_n 0, 1), (133, .iload_n 3, 1), (134, .bipush 36, 2), (136, .irem, 1), (137, .iload 4, 2), (139, .iconst 5, 1), (140, .irem, 1), (141, .invokevirtual 121, 3), (144, .istore 6, 2), (146, .iload 5, 2), (148, .ifCond .lt 41, 3), (151, .iload 6, 2), (153, .ifCond .lt 36, 3), (156, .aload_n 0, 1), (157, .iload 5, 2), (159, .iload 6, 2), (161, .invokevirtual 229, 3), (164, .ifCond .eq 25, 3), (167, .aload_n 0, 1), (168, .getfield 78, 3), (171, .bipush 36, 2)]
theorem dX11_layWays_2 : ∀ q ∈ tX11_layWays_2, decode cX11_layWays q.1 = .ok q.2 := by decide +kernel
def tX11_layWays_3 : List (Nat × Instr × Nat) := [(173, .iload 5, 2), (175, .imul, 1), (176, .iload 6, 2), (178, .iadd, 1), (179, .dup2, 1), (180, .laload, 1), (181, .aload_n 0, 1), (182, .getfield 75, 3), (185, .iload_n 3, 1), (186, .laload, 1), (187, .ladd, 1), (188, .lastore, 1), (189, .iinc 4 1, 3), (192, .goto (-92), 3), (195, .iinc 3 1, 3), (198, .goto (-108), 3), (201, .iconst 0, 1), (202, .istore_n 3, 1), (203, .iload_n 3, 1), (204, .sipush 1296, 3), (207, .if_icmp .ge 21, 3), (210, .aload_n 0, 1), (211, .getfield 75, 3), (214, .iload_n 3, 1), (215, .aload_n 0, 1), (216, .getfield 78, 3), (219, .iload_n 3, 1), (220, .laload, 1), (221, .lastore, 1), (222, .iinc 3 1, 3), (225, .goto (-22), 3), (228, .iinc 2 1, 3)]
theorem dX11_layWays_3 : ∀ q ∈ tX11_layWays_3, decode cX11_layWays q.1 = .ok q.2 := by decide +kernel
def tX11_layWays_4 : List (Nat × Instr × Nat) := [(231, .goto (-170), 3), (234, .return_, 1)]
theorem dX11_layWays_4 : ∀ q ∈ tX11_layWays_4, decode cX11_layWays q.1 = .ok q.2 := by decide +kernel
def tX11_wrongWays_0 : List (Nat × Instr × Nat) := [(0, .iload_n 1, 1), (1, .i2l, 1), (2, .lconst 0, 1), (3, .ldc2_w 258, 3), (6, .invokestatic 92, 3), (9, .ifCond .ne 7, 3), (12, .iconst (-1), 1), (13, .goto 16, 3), (16, .aload_n 0, 1), (17, .invokevirtual 243, 3), (20, .ifCond .eq 7, 3), (23, .iconst 0, 1), (24, .goto 5, 3), (27, .bipush (-3), 2), (29, .ireturn, 1)]
theorem dX11_wrongWays_0 : ∀ q ∈ tX11_wrongWays_0, decode cX11_wrongWays q.1 = .ok q.2 := by decide +kernel
def tX11_ways_0 : List (Nat × Instr × Nat) := [(0, .aload_n 0, 1), (1, .iconst 0, 1), (2, .putfield 87, 3), (5, .aload_n 0, 1), (6, .iload_n 1, 1), (7, .invokevirtual 260, 3), (10, .ifCond .ge 14, 3), (13, .aload_n 0, 1), (14, .iload_n 1, 1), (15, .invokevirtual 260, 3), (18, .ldc_w 263, 3), (21, .isub, 1), (22, .i2l, 1), (23, .lreturn, 1), (24, .aload_n 0, 1), (25, .iload_n 1, 1), (26, .invokevirtual 264, 3), (29, .lconst 0, 1), (30, .lstore_n 2, 1), (31, .iconst 0, 1), (32, .istore 4, 2), (34, .iload 4, 2), (36, .sipush 1296, 3), (39, .if_icmp .ge 19, 3), (42, .lload_n 2, 1), (43, .aload_n 0, 1), (44, .getfield 75, 3), (47, .iload 4, 2), (49, .laload, 1), (50, .ladd, 1), (51, .lstore_n 2, 1), (52, .iinc 4 1, 3)]
theorem dX11_ways_0 : ∀ q ∈ tX11_ways_0, decode cX11_ways q.1 = .ok q.2 := by decide +kernel
def tX11_ways_1 : List (Nat × Instr × Nat) := [(55, .goto (-21), 3), (58, .lload_n 2, 1), (59, .lreturn, 1)]
theorem dX11_ways_1 : ∀ q ∈ tX11_ways_1, decode cX11_ways q.1 = .ok q.2 := by decide +kernel
def tX11_rounds_0 : List (Nat × Instr × Nat) := [(0, .aload_n 0, 1), (1, .iconst 0, 1), (2, .putfield 87, 3), (5, .aload_n 0, 1), (6, .iload_n 1, 1), (7, .invokevirtual 260, 3), (10, .ifCond .ge 14, 3), (13, .aload_n 0, 1), (14, .iload_n 1, 1), (15, .invokevirtual 260, 3), (18, .ldc_w 263, 3), (21, .isub, 1), (22, .i2l, 1), (23, .lreturn, 1), (24, .aload_n 0, 1), (25, .iload_n 1, 1), (26, .invokevirtual 264, 3), (29, .aload_n 0, 1), (30, .getfield 75, 3), (33, .bipush 36, 2), (35, .aload_n 0, 1), (36, .getfield 23, 3), (39, .imul, 1), (40, .aload_n 0, 1), (41, .getfield 26, 3), (44, .iadd, 1), (45, .laload, 1), (46, .lreturn, 1)]
theorem dX11_rounds_0 : ∀ q ∈ tX11_rounds_0, decode cX11_rounds q.1 = .ok q.2 := by decide +kernel
def tX11_late_0 : List (Nat × Instr × Nat) := [(0, .aload_n 0, 1), (1, .iconst 0, 1), (2, .putfield 87, 3), (5, .iload_n 1, 1), (6, .i2l, 1), (7, .invokestatic 196, 3), (10, .ifCond .eq 15, 3), (13, .iload_n 2, 1), (14, .i2l, 1), (15, .lconst 0, 1), (16, .ldc2_w 267, 3), (19, .invokestatic 92, 3), (22, .ifCond .ne 5, 3), (25, .iconst (-1), 1), (26, .ireturn, 1), (27, .aload_n 0, 1), (28, .getfield 23, 3), (31, .ifCond .lt 11, 3), (34, .aload_n 0, 1), (35, .iload_n 1, 1), (36, .invokevirtual 113, 3), (39, .ifCond .ne 6, 3), (42, .bipush (-3), 2), (44, .ireturn, 1), (45, .lconst 1, 1), (46, .iload_n 1, 1), (47, .lshl, 1), (48, .lstore_n 3, 1), (49, .iconst 0, 1), (50, .istore 5, 2), (52, .iload 5, 2), (54, .iload_n 2, 1)]
theorem dX11_late_0 : ∀ q ∈ tX11_late_0, decode cX11_late q.1 = .ok q.2 := by decide +kernel
def tX11_late_1 : List (Nat × Instr × Nat) := [(55, .if_icmp .gt 15, 3), (58, .aload_n 0, 1), (59, .lload_n 3, 1), (60, .invokevirtual 218, 3), (63, .lstore_n 3, 1), (64, .iinc 5 1, 3), (67, .goto (-15), 3), (70, .iconst 0, 1), (71, .istore 5, 2), (73, .iconst 0, 1), (74, .istore 6, 2), (76, .iload 6, 2), (78, .iconst 5, 1), (79, .if_icmp .ge 99, 3), (82, .aload_n 0, 1), (83, .aload_n 0, 1), (84, .getfield 23, 3), (87, .iload 6, 2), (89, .invokevirtual 121, 3), (92, .istore 7, 2), (94, .iload 7, 2), (96, .ifCond .lt 7, 3), (99, .iconst 1, 1), (100, .goto 4, 3), (103, .iconst 0, 1), (104, .istore 8, 2), (106, .iconst 0, 1), (107, .istore 9, 2), (109, .iload 9, 2), (111, .bipush 36, 2), (113, .if_icmp .ge 41, 3), (116, .iload 8, 2)]
theorem dX11_late_1 : ∀ q ∈ tX11_late_1, decode cX11_late q.1 = .ok q.2 := by decide +kernel
def tX11_late_2 : List (Nat × Instr × Nat) := [(118, .ifCond .eq 36, 3), (121, .lload_n 3, 1), (122, .iload 9, 2), (124, .invokestatic 117, 3), (127, .ifCond .eq 14, 3), (130, .aload_n 0, 1), (131, .iload 7, 2), (133, .iload 9, 2), (135, .invokevirtual 226, 3), (138, .ifCond .ne 7, 3), (141, .iconst 1, 1), (142, .goto 4, 3), (145, .iconst 0, 1), (146, .istore 8, 2), (148, .iinc 9 1, 3), (151, .goto (-42), 3), (154, .iload 5, 2), (156, .iload 8, 2), (158, .ifCond .eq 10, 3), (161, .iconst 1, 1), (162, .iload 6, 2), (164, .ishl, 1), (165, .goto 4, 3), (168, .iconst 0, 1), (169, .ior, 1), (170, .istore 5, 2), (172, .iinc 6 1, 3), (175, .goto (-99), 3), (178, .iload 5, 2), (180, .ireturn, 1)]
theorem dX11_late_2 : ∀ q ∈ tX11_late_2, decode cX11_late q.1 = .ok q.2 := by decide +kernel
def tX11_wrongCells_0 : List (Nat × Instr × Nat) := [(0, .aload_n 0, 1), (1, .iload_n 1, 1), (2, .invokevirtual 168, 3), (5, .istore_n 2, 1), (6, .iload_n 2, 1), (7, .ifCond .ge 5, 3), (10, .iload_n 2, 1), (11, .ireturn, 1), (12, .iconst 0, 1), (13, .istore_n 3, 1), (14, .iload_n 3, 1), (15, .aload_n 0, 1), (16, .getfield 41, 3), (19, .iload_n 1, 1), (20, .iaload, 1), (21, .if_icmp .ge 29, 3), (24, .aload_n 0, 1), (25, .getfield 44, 3), (28, .bipush 100, 2), (30, .iload_n 1, 1), (31, .imul, 1), (32, .iload_n 3, 1), (33, .iadd, 1), (34, .laload, 1), (35, .invokestatic 196, 3), (38, .ifCond .ne 6, 3), (41, .bipush (-13), 2), (43, .ireturn, 1), (44, .iinc 3 1, 3), (47, .goto (-33), 3), (50, .aload_n 0, 1), (51, .getfield 41, 3)]
theorem dX11_wrongCells_0 : ∀ q ∈ tX11_wrongCells_0, decode cX11_wrongCells q.1 = .ok q.2 := by decide +kernel
def tX11_wrongCells_1 : List (Nat × Instr × Nat) := [(54, .iload_n 1, 1), (55, .iaload, 1), (56, .ifCond .ne 8, 3), (59, .bipush (-13), 2), (61, .goto 4, 3), (64, .iconst 0, 1), (65, .ireturn, 1)]
theorem dX11_wrongCells_1 : ∀ q ∈ tX11_wrongCells_1, decode cX11_wrongCells q.1 = .ok q.2 := by decide +kernel
def tX11_notOff_0 : List (Nat × Instr × Nat) := [(0, .lconst 0, 1), (1, .lstore 5, 2), (3, .iconst 0, 1), (4, .istore 7, 2), (6, .iload 7, 2), (8, .bipush 36, 2), (10, .if_icmp .ge 52, 3), (13, .lload 5, 2), (15, .lload_n 3, 1), (16, .iload 7, 2), (18, .invokestatic 117, 3), (21, .ifCond .eq 31, 3), (24, .aload_n 0, 1), (25, .aload_n 0, 1), (26, .getfield 44, 3), (29, .bipush 100, 2), (31, .iload_n 1, 1), (32, .imul, 1), (33, .iload_n 2, 1), (34, .iadd, 1), (35, .laload, 1), (36, .l2i, 1), (37, .iload 7, 2), (39, .invokevirtual 226, 3), (42, .ifCond .ne 10, 3), (45, .lconst 1, 1), (46, .iload 7, 2), (48, .lshl, 1), (49, .goto 4, 3), (52, .lconst 0, 1), (53, .lor, 1), (54, .lstore 5, 2)]
theorem dX11_notOff_0 : ∀ q ∈ tX11_notOff_0, decode cX11_notOff q.1 = .ok q.2 := by decide +kernel
def tX11_notOff_1 : List (Nat × Instr × Nat) := [(56, .iinc 7 1, 3), (59, .goto (-53), 3), (62, .lload 5, 2), (64, .lreturn, 1)]
theorem dX11_notOff_1 : ∀ q ∈ tX11_notOff_1, decode cX11_notOff q.1 = .ok q.2 := by decide +kernel
def tX11_toTheLast_0 : List (Nat × Instr × Nat) := [(0, .lload_n 3, 1), (1, .lstore 5, 2), (3, .iload_n 2, 1), (4, .iconst 1, 1), (5, .iadd, 1), (6, .istore 7, 2), (8, .iload 7, 2), (10, .aload_n 0, 1), (11, .getfield 41, 3), (14, .iload_n 1, 1), (15, .iaload, 1), (16, .if_icmp .ge 24, 3), (19, .aload_n 0, 1), (20, .iload_n 1, 1), (21, .iload 7, 2), (23, .aload_n 0, 1), (24, .lload 5, 2), (26, .invokevirtual 218, 3), (29, .invokevirtual 269, 3), (32, .lstore 5, 2), (34, .iinc 7 1, 3), (37, .goto (-29), 3), (40, .lload 5, 2), (42, .lreturn, 1)]
theorem dX11_toTheLast_0 : ∀ q ∈ tX11_toTheLast_0, decode cX11_toTheLast q.1 = .ok q.2 := by decide +kernel
def tX11_hisWay_0 : List (Nat × Instr × Nat) := [(0, .aload_n 0, 1), (1, .iconst 0, 1), (2, .putfield 87, 3), (5, .iload_n 2, 1), (6, .i2l, 1), (7, .lconst 0, 1), (8, .lconst 1, 1), (9, .invokestatic 92, 3), (12, .ifCond .eq 11, 3), (15, .aload_n 0, 1), (16, .iload_n 1, 1), (17, .invokevirtual 273, 3), (20, .goto 4, 3), (23, .iconst (-1), 1), (24, .istore_n 3, 1), (25, .iload_n 3, 1), (26, .ifCond .ge 10, 3), (29, .iload_n 3, 1), (30, .ldc_w 263, 3), (33, .isub, 1), (34, .i2l, 1), (35, .lreturn, 1), (36, .aload_n 0, 1), (37, .iload_n 1, 1), (38, .iconst 0, 1), (39, .aload_n 0, 1), (40, .iload_n 1, 1), (41, .iconst 0, 1), (42, .aload_n 0, 1), (43, .invokevirtual 214, 3), (46, .invokevirtual 269, 3), (49, .invokevirtual 276, 3)]
theorem dX11_hisWay_0 : ∀ q ∈ tX11_hisWay_0, decode cX11_hisWay q.1 = .ok q.2 := by decide +kernel
def tX11_hisWay_1 : List (Nat × Instr × Nat) := [(52, .lstore 4, 2), (54, .iload_n 2, 1), (55, .ifCond .ne 8, 3), (58, .lload 4, 2), (60, .goto 9, 3), (63, .lload 4, 2), (65, .invokestatic 239, 3), (68, .i2l, 1), (69, .lreturn, 1)]
theorem dX11_hisWay_1 : ∀ q ∈ tX11_hisWay_1, decode cX11_hisWay q.1 = .ok q.2 := by decide +kernel
def tX11_letter_0 : List (Nat × Instr × Nat) := [(0, .aload_n 0, 1), (1, .iconst 0, 1), (2, .putfield 87, 3), (5, .aload_n 0, 1), (6, .iload_n 1, 1), (7, .invokevirtual 273, 3), (10, .istore_n 2, 1), (11, .iload_n 2, 1), (12, .ifCond .ge 5, 3), (15, .iload_n 2, 1), (16, .ireturn, 1), (17, .bipush (-4), 2), (19, .istore_n 3, 1), (20, .bipush 99, 2), (22, .istore 4, 2), (24, .aload_n 0, 1), (25, .iload_n 1, 1), (26, .iconst 0, 1), (27, .aload_n 0, 1), (28, .invokevirtual 214, 3), (31, .invokevirtual 269, 3), (34, .lstore 5, 2), (36, .iconst 0, 1), (37, .istore 7, 2), (39, .iload 7, 2), (41, .aload_n 0, 1), (42, .getfield 41, 3), (45, .iload_n 1, 1), (46, .iaload, 1), (47, .if_icmp .ge 139, 3), (50, .iload 7, 2), (52, .ifCond .ne 8, 3)]
theorem dX11_letter_0 : ∀ q ∈ tX11_letter_0, decode cX11_letter q.1 = .ok q.2 := by decide +kernel
def tX11_letter_1 : List (Nat × Instr × Nat) := [(55, .lload 5, 2), (57, .goto 16, 3), (60, .aload_n 0, 1), (61, .iload_n 1, 1), (62, .iload 7, 2), (64, .aload_n 0, 1), (65, .lload 5, 2), (67, .invokevirtual 218, 3), (70, .invokevirtual 269, 3), (73, .lstore 5, 2), (75, .iconst 0, 1), (76, .istore 8, 2), (78, .iconst 0, 1), (79, .istore 9, 2), (81, .iload 9, 2), (83, .bipush 36, 2), (85, .if_icmp .ge 55, 3), (88, .lload 5, 2), (90, .iload 9, 2), (92, .invokestatic 117, 3), (95, .ifCond .eq 20, 3), (98, .aload_n 0, 1), (99, .iload_n 1, 1), (100, .iload 7, 2), (102, .lconst 1, 1), (103, .iload 9, 2), (105, .lshl, 1), (106, .invokevirtual 276, 3), (109, .invokestatic 239, 3), (112, .goto 4, 3), (115, .iconst 0, 1), (116, .istore 10, 2)]
theorem dX11_letter_1 : ∀ q ∈ tX11_letter_1, decode cX11_letter q.1 = .ok q.2 := by decide +kernel
def tX11_letter_2 : List (Nat × Instr × Nat) := [(118, .iload 10, 2), (120, .iload 8, 2), (122, .if_icmp .le 8, 3), (125, .iload 10, 2), (127, .goto 5, 3), (130, .iload 8, 2), (132, .istore 8, 2), (134, .iinc 9 1, 3), (137, .goto (-56), 3), (140, .iload 8, 2), (142, .ifCond .le 15, 3), (145, .iload 8, 2), (147, .iload 4, 2), (149, .if_icmp .ge 8, 3), (152, .iload 7, 2), (154, .goto 4, 3), (157, .iload_n 3, 1), (158, .istore_n 3, 1), (159, .iload 8, 2), (161, .ifCond .le 15, 3), (164, .iload 8, 2), (166, .iload 4, 2), (168, .if_icmp .ge 8, 3), (171, .iload 8, 2), (173, .goto 5, 3), (176, .iload 4, 2), (178, .istore 4, 2), (180, .iinc 7 1, 3), (183, .goto (-144), 3), (186, .iload_n 3, 1), (187, .ireturn, 1)]
theorem dX11_letter_2 : ∀ q ∈ tX11_letter_2, decode cX11_letter q.1 = .ok q.2 := by decide +kernel
def tX11_third_0 : List (Nat × Instr × Nat) := [(0, .aload_n 0, 1), (1, .iconst 0, 1), (2, .putfield 87, 3), (5, .iload_n 1, 1), (6, .i2l, 1), (7, .lconst 0, 1), (8, .lconst 1, 1), (9, .invokestatic 92, 3), (12, .ifCond .ne 5, 3), (15, .iconst (-1), 1), (16, .ireturn, 1), (17, .aload_n 0, 1), (18, .invokevirtual 243, 3), (21, .ifCond .ne 6, 3), (24, .bipush (-3), 2), (26, .ireturn, 1), (27, .iconst 0, 1), (28, .istore_n 2, 1), (29, .bipush (-4), 2), (31, .istore_n 3, 1), (32, .iconst 0, 1), (33, .istore 4, 2), (35, .iload 4, 2), (37, .bipush 36, 2), (39, .if_icmp .ge 80, 3), (42, .aload_n 0, 1), (43, .iload 4, 2), (45, .invokevirtual 113, 3), (48, .ifCond .eq 33, 3), (51, .aload_n 0, 1), (52, .aload_n 0, 1), (53, .getfield 23, 3)]
theorem dX11_third_0 : ∀ q ∈ tX11_third_0, decode cX11_third q.1 = .ok q.2 := by decide +kernel
def tX11_third_1 : List (Nat × Instr × Nat) := [(56, .iload 4, 2), (58, .invokevirtual 226, 3), (61, .ifCond .ne 20, 3), (64, .aload_n 0, 1), (65, .aload_n 0, 1), (66, .getfield 26, 3), (69, .iload 4, 2), (71, .invokevirtual 226, 3), (74, .ifCond .ne 7, 3), (77, .iconst 1, 1), (78, .goto 4, 3), (81, .iconst 0, 1), (82, .istore 5, 2), (84, .iload_n 2, 1), (85, .iload 5, 2), (87, .ifCond .eq 7, 3), (90, .iconst 1, 1), (91, .goto 4, 3), (94, .iconst 0, 1), (95, .iadd, 1), (96, .istore_n 2, 1), (97, .iload 5, 2), (99, .ifCond .eq 12, 3), (102, .iload_n 3, 1), (103, .ifCond .ge 8, 3), (106, .iload 4, 2), (108, .goto 4, 3), (111, .iload_n 3, 1), (112, .istore_n 3, 1), (113, .iinc 4 1, 3), (116, .goto (-81), 3), (119, .iload_n 1, 1)]
theorem dX11_third_1 : ∀ q ∈ tX11_third_1, decode cX11_third q.1 = .ok q.2 := by decide +kernel
def tX11_third_2 : List (Nat × Instr × Nat) := [(120, .ifCond .ne 7, 3), (123, .iload_n 2, 1), (124, .goto 4, 3), (127, .iload_n 3, 1), (128, .ireturn, 1)]
theorem dX11_third_2 : ∀ q ∈ tX11_third_2, decode cX11_third q.1 = .ok q.2 := by decide +kernel
def tX11_farBy_0 : List (Nat × Instr × Nat) := [(0, .aload_n 0, 1), (1, .aload_n 0, 1), (2, .getfield 23, 3), (5, .iload_n 1, 1), (6, .invokevirtual 121, 3), (9, .istore_n 3, 1), (10, .aload_n 0, 1), (11, .aload_n 0, 1), (12, .getfield 26, 3), (15, .iload_n 2, 1), (16, .invokevirtual 121, 3), (19, .istore 4, 2), (21, .iload_n 3, 1), (22, .ifCond .lt 8, 3), (25, .iload 4, 2), (27, .ifCond .ge 7, 3), (30, .iconst (-1), 1), (31, .goto 10, 3), (34, .aload_n 0, 1), (35, .iload_n 3, 1), (36, .iload 4, 2), (38, .invokevirtual 106, 3), (41, .ireturn, 1)]
theorem dX11_farBy_0 : ∀ q ∈ tX11_farBy_0, decode cX11_farBy q.1 = .ok q.2 := by decide +kernel
def tX11_rests_0 : List (Nat × Instr × Nat) := [(0, .aload_n 0, 1), (1, .iload_n 1, 1), (2, .iload_n 2, 1), (3, .invokevirtual 279, 3), (6, .istore_n 3, 1), (7, .iload_n 3, 1), (8, .ifCond .lt 7, 3), (11, .iconst 1, 1), (12, .goto 4, 3), (15, .iconst 0, 1), (16, .istore 4, 2), (18, .iconst 0, 1), (19, .istore 5, 2), (21, .iload 5, 2), (23, .iconst 5, 1), (24, .if_icmp .ge 61, 3), (27, .aload_n 0, 1), (28, .iload 5, 2), (30, .iload_n 2, 1), (31, .invokevirtual 279, 3), (34, .istore 6, 2), (36, .aload_n 0, 1), (37, .iload_n 1, 1), (38, .iload 5, 2), (40, .invokevirtual 279, 3), (43, .istore 7, 2), (45, .iload 4, 2), (47, .ifCond .eq 29, 3), (50, .iload 6, 2), (52, .ifCond .lt 9, 3), (55, .iload 6, 2), (57, .iload_n 3, 1)]
theorem dX11_rests_0 : ∀ q ∈ tX11_rests_0, decode cX11_rests q.1 = .ok q.2 := by decide +kernel
def tX11_rests_1 : List (Nat × Instr × Nat) := [(58, .if_icmp .lt 18, 3), (61, .iload 7, 2), (63, .ifCond .lt 9, 3), (66, .iload 7, 2), (68, .iload_n 3, 1), (69, .if_icmp .gt 7, 3), (72, .iconst 1, 1), (73, .goto 4, 3), (76, .iconst 0, 1), (77, .istore 4, 2), (79, .iinc 5 1, 3), (82, .goto (-61), 3), (85, .iload 4, 2), (87, .ireturn, 1)]
theorem dX11_rests_1 : ∀ q ∈ tX11_rests_1, decode cX11_rests q.1 = .ok q.2 := by decide +kernel
def tX11_game_0 : List (Nat × Instr × Nat) := [(0, .aload_n 0, 1), (1, .iconst 0, 1), (2, .putfield 87, 3), (5, .iload_n 1, 1), (6, .i2l, 1), (7, .lconst 0, 1), (8, .lconst 1, 1), (9, .invokestatic 92, 3), (12, .ifCond .ne 5, 3), (15, .iconst (-1), 1), (16, .ireturn, 1), (17, .aload_n 0, 1), (18, .invokevirtual 243, 3), (21, .ifCond .ne 6, 3), (24, .bipush (-3), 2), (26, .ireturn, 1), (27, .bipush (-4), 2), (29, .istore_n 2, 1), (30, .sipush 999, 3), (33, .istore_n 3, 1), (34, .iconst 4, 1), (35, .istore 4, 2), (37, .iload 4, 2), (39, .ifCond .lt 96, 3), (42, .iconst (-1), 1), (43, .istore 5, 2), (45, .iconst 4, 1), (46, .istore 6, 2), (48, .iload 6, 2), (50, .ifCond .lt 61, 3), (53, .aload_n 0, 1), (54, .iload 4, 2)]
theorem dX11_game_0 : ∀ q ∈ tX11_game_0, decode cX11_game q.1 = .ok q.2 := by decide +kernel
def tX11_game_1 : List (Nat × Instr × Nat) := [(56, .iload 6, 2), (58, .invokevirtual 282, 3), (61, .ifCond .eq 14, 3), (64, .bipush 10, 2), (66, .iload 4, 2), (68, .imul, 1), (69, .iload 6, 2), (71, .iadd, 1), (72, .goto 4, 3), (75, .iload_n 2, 1), (76, .istore_n 2, 1), (77, .aload_n 0, 1), (78, .iload 4, 2), (80, .iload 6, 2), (82, .invokevirtual 279, 3), (85, .iload 5, 2), (87, .if_icmp .le 14, 3), (90, .aload_n 0, 1), (91, .iload 4, 2), (93, .iload 6, 2), (95, .invokevirtual 279, 3), (98, .goto 5, 3), (101, .iload 5, 2), (103, .istore 5, 2), (105, .iinc 6 (-1), 3), (108, .goto (-60), 3), (111, .iload 5, 2), (113, .ifCond .lt 14, 3), (116, .iload 5, 2), (118, .iload_n 3, 1), (119, .if_icmp .ge 8, 3), (122, .iload 5, 2)]
theorem dX11_game_1 : ∀ q ∈ tX11_game_1, decode cX11_game q.1 = .ok q.2 := by decide +kernel
def tX11_game_2 : List (Nat × Instr × Nat) := [(124, .goto 4, 3), (127, .iload_n 3, 1), (128, .istore_n 3, 1), (129, .iinc 4 (-1), 3), (132, .goto (-95), 3), (135, .iload_n 1, 1), (136, .ifCond .ne 7, 3), (139, .iload_n 2, 1), (140, .goto 4, 3), (143, .iload_n 3, 1), (144, .ireturn, 1)]
theorem dX11_game_2 : ∀ q ∈ tX11_game_2, decode cX11_game q.1 = .ok q.2 := by decide +kernel
def tX11_divisor_0 : List (Nat × Instr × Nat) := [(0, .lload_n 0, 1), (1, .lstore 4, 2), (3, .lload_n 2, 1), (4, .lstore 6, 2), (6, .lload 6, 2), (8, .lconst 0, 1), (9, .lcmp, 1), (10, .ifCond .eq 21, 3), (13, .lload 4, 2), (15, .lload 6, 2), (17, .lrem, 1), (18, .lstore 8, 2), (20, .lload 6, 2), (22, .lstore 4, 2), (24, .lload 8, 2), (26, .lstore 6, 2), (28, .goto (-22), 3), (31, .lload 4, 2), (33, .lreturn, 1)]
theorem dX11_divisor_0 : ∀ q ∈ tX11_divisor_0, decode cX11_divisor q.1 = .ok q.2 := by decide +kernel
def tX11_partOf_0 : List (Nat × Instr × Nat) := [(0, .lload_n 0, 1), (1, .lconst 0, 1), (2, .lcmp, 1), (3, .ifCond .ne 7, 3), (6, .iload 4, 2), (8, .i2l, 1), (9, .lreturn, 1), (10, .lload_n 0, 1), (11, .lload_n 2, 1), (12, .invokestatic 285, 3), (15, .lstore 5, 2), (17, .iload 4, 2), (19, .ifCond .ne 10, 3), (22, .lload_n 0, 1), (23, .lload 5, 2), (25, .ldiv, 1), (26, .goto 7, 3), (29, .lload_n 2, 1), (30, .lload 5, 2), (32, .ldiv, 1), (33, .lreturn, 1)]
theorem dX11_partOf_0 : ∀ q ∈ tX11_partOf_0, decode cX11_partOf q.1 = .ok q.2 := by decide +kernel
def tX11_isWay_0 : List (Nat × Instr × Nat) := [(0, .lconst 1, 1), (1, .iload_n 2, 1), (2, .lshl, 1), (3, .lload_n 0, 1), (4, .land, 1), (5, .lstore 4, 2), (7, .iconst 0, 1), (8, .istore 6, 2), (10, .iload 6, 2), (12, .bipush 36, 2), (14, .if_icmp .ge 94, 3), (17, .lload 4, 2), (19, .lstore 7, 2), (21, .iconst 0, 1), (22, .istore 9, 2), (24, .iload 9, 2), (26, .bipush 36, 2), (28, .if_icmp .ge 70, 3), (31, .iconst 1, 1), (32, .istore 10, 2), (34, .iload 10, 2), (36, .iconst 5, 1), (37, .if_icmp .ge 55, 3), (40, .lload 4, 2), (42, .iload 9, 2), (44, .invokestatic 117, 3), (47, .ifCond .eq 45, 3), (50, .iload 9, 2), (52, .iload 10, 2), (54, .invokestatic 110, 3), (57, .istore 11, 2), (59, .lload 7, 2)]
theorem dX11_isWay_0 : ∀ q ∈ tX11_isWay_0, decode cX11_isWay q.1 = .ok q.2 := by decide +kernel
def tX11_isWay_1 : List (Nat × Instr × Nat) := [(61, .iload 11, 2), (63, .ifCond .lt 19, 3), (66, .lload_n 0, 1), (67, .iload 11, 2), (69, .invokestatic 117, 3), (72, .ifCond .eq 10, 3), (75, .lconst 1, 1), (76, .iload 11, 2), (78, .lshl, 1), (79, .goto 4, 3), (82, .lconst 0, 1), (83, .lor, 1), (84, .lstore 7, 2), (86, .iinc 10 1, 3), (89, .goto (-55), 3), (92, .iinc 9 1, 3), (95, .goto (-71), 3), (98, .lload 7, 2), (100, .lstore 4, 2), (102, .iinc 6 1, 3), (105, .goto (-95), 3), (108, .lload 4, 2), (110, .iload_n 3, 1), (111, .invokestatic 117, 3), (114, .ireturn, 1)]
theorem dX11_isWay_1 : ∀ q ∈ tX11_isWay_1, decode cX11_isWay q.1 = .ok q.2 := by decide +kernel
def tX11_snow_0 : List (Nat × Instr × Nat) := [(0, .aload_n 0, 1), (1, .iconst 0, 1), (2, .putfield 87, 3), (5, .iload_n 1, 1), (6, .i2l, 1), (7, .invokestatic 196, 3), (10, .ifCond .eq 21, 3), (13, .iload_n 2, 1), (14, .i2l, 1), (15, .invokestatic 196, 3), (18, .ifCond .eq 13, 3), (21, .iload_n 3, 1), (22, .i2l, 1), (23, .lconst 0, 1), (24, .lconst 1, 1), (25, .invokestatic 92, 3), (28, .ifCond .ne 7, 3), (31, .ldc2_w 289, 3), (34, .lreturn, 1), (35, .lconst 0, 1), (36, .lstore 4, 2), (38, .iconst 0, 1), (39, .istore 6, 2), (41, .lconst 1, 1), (42, .lstore 7, 2), (44, .iconst 0, 1), (45, .istore 9, 2), (47, .iload 9, 2), (49, .bipush 36, 2), (51, .if_icmp .ge 81, 3), (54, .lload 4, 2), (56, .aload_n 0, 1)]
theorem dX11_snow_0 : ∀ q ∈ tX11_snow_0, decode cX11_snow q.1 = .ok q.2 := by decide +kernel
def tX11_snow_1 : List (Nat × Instr × Nat) := [(57, .iload 9, 2), (59, .invokevirtual 200, 3), (62, .bipush 10, 2), (64, .if_icmp .ne 10, 3), (67, .lconst 1, 1), (68, .iload 9, 2), (70, .lshl, 1), (71, .goto 4, 3), (74, .lconst 0, 1), (75, .lor, 1), (76, .lstore 4, 2), (78, .aload_n 0, 1), (79, .iload 9, 2), (81, .invokevirtual 200, 3), (84, .i2l, 1), (85, .lconst 1, 1), (86, .ldc2_w 291, 3), (89, .invokestatic 92, 3), (92, .ifCond .eq 34, 3), (95, .iload 6, 2), (97, .bipush 8, 2), (99, .if_icmp .ne 7, 3), (102, .ldc2_w 293, 3), (105, .lreturn, 1), (106, .aload_n 0, 1), (107, .getfield 81, 3), (110, .iload 6, 2), (112, .iload 9, 2), (114, .iastore, 1), (115, .iinc 6 1, 3), (118, .lload 7, 2), (120, .ldc2_w 258, 3)]
theorem dX11_snow_1 : ∀ q ∈ tX11_snow_1, decode cX11_snow q.1 = .ok q.2 := by decide +kernel
def tX11_snow_2 : List (Nat × Instr × Nat) := [(123, .lmul, 1), (124, .lstore 7, 2), (126, .iinc 9 1, 3), (129, .goto (-82), 3), (132, .lconst 0, 1), (133, .lstore 9, 2), (135, .iconst 0, 1), (136, .istore 11, 2), (138, .iload 11, 2), (140, .iconst 1, 1), (141, .iload 6, 2), (143, .ishl, 1), (144, .if_icmp .ge 134, 3), (147, .lload 4, 2), (149, .lstore 12, 2), (151, .lconst 1, 1), (152, .lstore 14, 2), (154, .iconst 0, 1), (155, .istore 16, 2), (157, .iload 16, 2), (159, .iload 6, 2), (161, .if_icmp .ge 90, 3), (164, .iload 11, 2), (166, .iload 16, 2), (168, .ishr, 1), (169, .iconst 1, 1), (170, .iand, 1), (171, .iconst 1, 1), (172, .if_icmp .ne 7, 3), (175, .iconst 1, 1), (176, .goto 4, 3), (179, .iconst 0, 1)]
theorem dX11_snow_2 : ∀ q ∈ tX11_snow_2, decode cX11_snow q.1 = .ok q.2 := by decide +kernel
def tX11_snow_3 : List (Nat × Instr × Nat) := [(180, .istore 17, 2), (182, .lload 12, 2), (184, .iload 17, 2), (186, .ifCond .eq 15, 3), (189, .lconst 1, 1), (190, .aload_n 0, 1), (191, .getfield 81, 3), (194, .iload 16, 2), (196, .iaload, 1), (197, .lshl, 1), (198, .goto 4, 3), (201, .lconst 0, 1), (202, .lor, 1), (203, .lstore 12, 2), (205, .lload 14, 2), (207, .iload 17, 2), (209, .ifCond .eq 18, 3), (212, .aload_n 0, 1), (213, .aload_n 0, 1), (214, .getfield 81, 3), (217, .iload 16, 2), (219, .iaload, 1), (220, .invokevirtual 200, 3), (223, .i2l, 1), (224, .goto 18, 3), (227, .bipush 10, 2), (229, .aload_n 0, 1), (230, .aload_n 0, 1), (231, .getfield 81, 3), (234, .iload 16, 2), (236, .iaload, 1), (237, .invokevirtual 200, 3)]
theorem dX11_snow_3 : ∀ q ∈ tX11_snow_3, decode cX11_snow q.1 = .ok q.2 := by decide +kernel
def tX11_snow_4 : List (Nat × Instr × Nat) := [(240, .isub, 1), (241, .i2l, 1), (242, .lmul, 1), (243, .lstore 14, 2), (245, .iinc 16 1, 3), (248, .goto (-91), 3), (251, .lload 9, 2), (253, .lload 12, 2), (255, .iload_n 1, 1), (256, .iload_n 2, 1), (257, .invokestatic 295, 3), (260, .ifCond .eq 8, 3), (263, .lload 14, 2), (265, .goto 4, 3), (268, .lconst 0, 1), (269, .ladd, 1), (270, .lstore 9, 2), (272, .iinc 11 1, 3), (275, .goto (-137), 3), (278, .lload 9, 2), (280, .lload 7, 2), (282, .iload_n 3, 1), (283, .invokestatic 299, 3), (286, .lreturn, 1)]
theorem dX11_snow_4 : ∀ q ∈ tX11_snow_4, decode cX11_snow q.1 = .ok q.2 := by decide +kernel
def tX11_mean_0 : List (Nat × Instr × Nat) := [(0, .aload_n 0, 1), (1, .iconst 0, 1), (2, .putfield 87, 3), (5, .iload_n 1, 1), (6, .i2l, 1), (7, .lconst 0, 1), (8, .lconst 1, 1), (9, .invokestatic 92, 3), (12, .ifCond .ne 7, 3), (15, .ldc2_w 289, 3), (18, .lreturn, 1), (19, .lconst 0, 1), (20, .lstore_n 2, 1), (21, .iconst 0, 1), (22, .istore 4, 2), (24, .iload 4, 2), (26, .sipush 1296, 3), (29, .if_icmp .ge 48, 3), (32, .lload_n 2, 1), (33, .aload_n 0, 1), (34, .iload 4, 2), (36, .bipush 36, 2), (38, .idiv, 1), (39, .iload 4, 2), (41, .bipush 36, 2), (43, .irem, 1), (44, .invokevirtual 229, 3), (47, .ifCond .eq 21, 3), (50, .aload_n 0, 1), (51, .iload 4, 2), (53, .bipush 36, 2), (55, .idiv, 1)]
theorem dX11_mean_0 : ∀ q ∈ tX11_mean_0, decode cX11_mean q.1 = .ok q.2 := by decide +kernel
def tX11_mean_1 : List (Nat × Instr × Nat) := [(56, .iload 4, 2), (58, .bipush 36, 2), (60, .irem, 1), (61, .invokevirtual 106, 3), (64, .i2l, 1), (65, .goto 4, 3), (68, .lconst 0, 1), (69, .ladd, 1), (70, .lstore_n 2, 1), (71, .iinc 4 1, 3), (74, .goto (-50), 3), (77, .aload_n 0, 1), (78, .invokevirtual 232, 3), (81, .ifCond .ne 8, 3), (84, .iload_n 1, 1), (85, .i2l, 1), (86, .goto 13, 3), (89, .lload_n 2, 1), (90, .aload_n 0, 1), (91, .invokevirtual 232, 3), (94, .i2l, 1), (95, .iload_n 1, 1), (96, .invokestatic 299, 3), (99, .lreturn, 1)]
theorem dX11_mean_1 : ∀ q ∈ tX11_mean_1, decode cX11_mean q.1 = .ok q.2 := by decide +kernel
def tX11_curve_0 : List (Nat × Instr × Nat) := [(0, .aload_n 0, 1), (1, .iconst 0, 1), (2, .putfield 87, 3), (5, .iload_n 1, 1), (6, .i2l, 1), (7, .lconst 0, 1), (8, .ldc2_w 210, 3), (11, .invokestatic 92, 3), (14, .ifCond .ne 5, 3), (17, .iconst (-1), 1), (18, .ireturn, 1), (19, .aload_n 0, 1), (20, .getfield 20, 3), (23, .istore_n 2, 1), (24, .aload_n 0, 1), (25, .iload_n 1, 1), (26, .putfield 20, 3), (29, .aload_n 0, 1), (30, .invokevirtual 232, 3), (33, .istore_n 3, 1), (34, .aload_n 0, 1), (35, .iload_n 2, 1), (36, .putfield 20, 3), (39, .iload_n 3, 1), (40, .ireturn, 1)]
theorem dX11_curve_0 : ∀ q ∈ tX11_curve_0, decode cX11_curve q.1 = .ok q.2 := by decide +kernel
def tX11_skipped_0 : List (Nat × Instr × Nat) := [(0, .aload_n 0, 1), (1, .getfield 38, 3), (4, .iload_n 1, 1), (5, .iaload, 1), (6, .ifCond .ne 9, 3), (9, .ldc2_w 303, 3), (12, .goto 22, 3), (15, .aload_n 0, 1), (16, .getfield 38, 3), (19, .iload_n 1, 1), (20, .iaload, 1), (21, .iconst 1, 1), (22, .if_icmp .ne 9, 3), (25, .ldc2_w 305, 3), (28, .goto 6, 3), (31, .ldc2_w 307, 3), (34, .lreturn, 1)]
theorem dX11_skipped_0 : ∀ q ∈ tX11_skipped_0, decode cX11_skipped q.1 = .ok q.2 := by decide +kernel
def tX11_stayOrGo_0 : List (Nat × Instr × Nat) := [(0, .aload_n 0, 1), (1, .lload_n 1, 1), (2, .invokevirtual 218, 3), (5, .lload_n 1, 1), (6, .lor, 1), (7, .lreturn, 1)]
theorem dX11_stayOrGo_0 : ∀ q ∈ tX11_stayOrGo_0, decode cX11_stayOrGo q.1 = .ok q.2 := by decide +kernel
def tX11_judge_0 : List (Nat × Instr × Nat) := [(0, .aload_n 0, 1), (1, .iconst 0, 1), (2, .putfield 87, 3), (5, .iload_n 1, 1), (6, .i2l, 1), (7, .lconst 0, 1), (8, .ldc2_w 203, 3), (11, .invokestatic 92, 3), (14, .ifCond .ne 7, 3), (17, .iconst (-1), 1), (18, .goto 20, 3), (21, .aload_n 0, 1), (22, .getfield 23, 3), (25, .ifCond .ge 8, 3), (28, .bipush (-3), 2), (30, .goto 8, 3), (33, .aload_n 0, 1), (34, .iload_n 1, 1), (35, .invokevirtual 168, 3), (38, .istore_n 2, 1), (39, .iload_n 2, 1), (40, .ifCond .ge 5, 3), (43, .iload_n 2, 1), (44, .ireturn, 1), (45, .lconst 1, 1), (46, .aload_n 0, 1), (47, .getfield 23, 3), (50, .lshl, 1), (51, .lstore_n 3, 1), (52, .iconst 0, 1), (53, .istore 5, 2), (55, .iload 5, 2)]
theorem dX11_judge_0 : ∀ q ∈ tX11_judge_0, decode cX11_judge q.1 = .ok q.2 := by decide +kernel
def tX11_judge_1 : List (Nat × Instr × Nat) := [(57, .aload_n 0, 1), (58, .getfield 41, 3), (61, .iload_n 1, 1), (62, .iaload, 1), (63, .if_icmp .ge 103, 3), (66, .aload_n 0, 1), (67, .getfield 44, 3), (70, .bipush 100, 2), (72, .iload_n 1, 1), (73, .imul, 1), (74, .iload 5, 2), (76, .iadd, 1), (77, .laload, 1), (78, .lstore 6, 2), (80, .iload 5, 2), (82, .ifCond .ne 7, 3), (85, .lload_n 3, 1), (86, .goto 8, 3), (89, .aload_n 0, 1), (90, .lload_n 3, 1), (91, .invokevirtual 309, 3), (94, .lstore_n 3, 1), (95, .lload 6, 2), (97, .aload_n 0, 1), (98, .iload_n 1, 1), (99, .invokevirtual 312, 3), (102, .lcmp, 1), (103, .ifCond .eq 57, 3), (106, .lload 6, 2), (108, .invokestatic 196, 3), (111, .ifCond .eq 32, 3), (114, .lload_n 3, 1)]
theorem dX11_judge_1 : ∀ q ∈ tX11_judge_1, decode cX11_judge q.1 = .ok q.2 := by decide +kernel
def tX11_judge_2 : List (Nat × Instr × Nat) := [(115, .lload 6, 2), (117, .l2i, 1), (118, .invokestatic 117, 3), (121, .ifCond .eq 22, 3), (124, .iload 5, 2), (126, .ifCond .eq 13, 3), (129, .aload_n 0, 1), (130, .lload 6, 2), (132, .l2i, 1), (133, .invokevirtual 113, 3), (136, .ifCond .eq 7, 3), (139, .iconst 1, 1), (140, .goto 4, 3), (143, .iconst 0, 1), (144, .istore 8, 2), (146, .iload 8, 2), (148, .ifCond .ne 6, 3), (151, .iload 5, 2), (153, .ireturn, 1), (154, .lconst 1, 1), (155, .lload 6, 2), (157, .l2i, 1), (158, .lshl, 1), (159, .lstore_n 3, 1), (160, .iinc 5 1, 3), (163, .goto (-108), 3), (166, .bipush (-4), 2), (168, .ireturn, 1)]
theorem dX11_judge_2 : ∀ q ∈ tX11_judge_2, decode cX11_judge q.1 = .ok q.2 := by decide +kernel
def tX11_drawBelow_0 : List (Nat × Instr × Nat) := [(0, .aload_n 0, 1), (1, .aload_n 0, 1), (2, .getfield 315, 3), (5, .ldc_w 318, 3), (8, .imul, 1), (9, .sipush 12345, 3), (12, .iadd, 1), (13, .putfield 315, 3), (16, .aload_n 0, 1), (17, .getfield 315, 3), (20, .ldc_w 319, 3), (23, .iand, 1), (24, .ldc_w 320, 3), (27, .idiv, 1), (28, .iload_n 1, 1), (29, .irem, 1), (30, .ireturn, 1)]
theorem dX11_drawBelow_0 : ∀ q ∈ tX11_drawBelow_0, decode cX11_drawBelow q.1 = .ok q.2 := by decide +kernel
def tX11_seeds_0 : List (Nat × Instr × Nat) := [(0, .aload_n 0, 1), (1, .iconst 0, 1), (2, .putfield 87, 3), (5, .iload_n 1, 1), (6, .i2l, 1), (7, .lconst 1, 1), (8, .ldc2_w 210, 3), (11, .invokestatic 92, 3), (14, .ifCond .eq 13, 3), (17, .iload_n 3, 1), (18, .i2l, 1), (19, .lconst 0, 1), (20, .lconst 1, 1), (21, .invokestatic 92, 3), (24, .ifCond .ne 5, 3), (27, .iconst (-1), 1), (28, .ireturn, 1), (29, .aload_n 0, 1), (30, .invokevirtual 243, 3), (33, .ifCond .ne 6, 3), (36, .bipush (-3), 2), (38, .ireturn, 1), (39, .aload_n 0, 1), (40, .iload_n 2, 1), (41, .putfield 315, 3), (44, .iconst 0, 1), (45, .istore 4, 2), (47, .iconst 0, 1), (48, .istore 5, 2), (50, .iconst 0, 1), (51, .istore 6, 2), (53, .iload 6, 2)]
theorem dX11_seeds_0 : ∀ q ∈ tX11_seeds_0, decode cX11_seeds q.1 = .ok q.2 := by decide +kernel
def tX11_seeds_1 : List (Nat × Instr × Nat) := [(55, .iload_n 1, 1), (56, .if_icmp .ge 141, 3), (59, .aload_n 0, 1), (60, .getfield 23, 3), (63, .istore 7, 2), (65, .aload_n 0, 1), (66, .getfield 26, 3), (69, .istore 8, 2), (71, .iconst 0, 1), (72, .istore 9, 2), (74, .iload 9, 2), (76, .bipush 20, 2), (78, .if_icmp .ge 113, 3), (81, .aload_n 0, 1), (82, .iload 7, 2), (84, .aload_n 0, 1), (85, .iconst 5, 1), (86, .invokevirtual 321, 3), (89, .invokevirtual 121, 3), (92, .istore 10, 2), (94, .aload_n 0, 1), (95, .iload 8, 2), (97, .aload_n 0, 1), (98, .iconst 5, 1), (99, .invokevirtual 321, 3), (102, .invokevirtual 121, 3), (105, .istore 11, 2), (107, .iload 10, 2), (109, .ifCond .ge 8, 3), (112, .iload 7, 2), (114, .goto 5, 3), (117, .iload 10, 2)]
theorem dX11_seeds_1 : ∀ q ∈ tX11_seeds_1, decode cX11_seeds q.1 = .ok q.2 := by decide +kernel
def tX11_seeds_2 : List (Nat × Instr × Nat) := [(119, .istore 7, 2), (121, .iload 11, 2), (123, .ifCond .ge 8, 3), (126, .iload 8, 2), (128, .goto 5, 3), (131, .iload 11, 2), (133, .istore 8, 2), (135, .iload 4, 2), (137, .aload_n 0, 1), (138, .iload 7, 2), (140, .iload 8, 2), (142, .invokevirtual 106, 3), (145, .aload_n 0, 1), (146, .getfield 16, 3), (149, .if_icmp .ge 7, 3), (152, .iconst 1, 1), (153, .goto 4, 3), (156, .iconst 0, 1), (157, .iadd, 1), (158, .istore 4, 2), (160, .iload 5, 2), (162, .aload_n 0, 1), (163, .iload 7, 2), (165, .iload 8, 2), (167, .invokevirtual 106, 3), (170, .aload_n 0, 1), (171, .getfield 20, 3), (174, .if_icmp .le 7, 3), (177, .iconst 1, 1), (178, .goto 4, 3), (181, .iconst 0, 1), (182, .iadd, 1)]
theorem dX11_seeds_2 : ∀ q ∈ tX11_seeds_2, decode cX11_seeds q.1 = .ok q.2 := by decide +kernel
def tX11_seeds_3 : List (Nat × Instr × Nat) := [(183, .istore 5, 2), (185, .iinc 9 1, 3), (188, .goto (-114), 3), (191, .iinc 6 1, 3), (194, .goto (-141), 3), (197, .iload_n 3, 1), (198, .ifCond .ne 8, 3), (201, .iload 4, 2), (203, .goto 5, 3), (206, .iload 5, 2), (208, .ireturn, 1)]
theorem dX11_seeds_3 : ∀ q ∈ tX11_seeds_3, decode cX11_seeds q.1 = .ok q.2 := by decide +kernel
def tX11_count_0 : List (Nat × Instr × Nat) := [(0, .aload_n 0, 1), (1, .iconst 0, 1), (2, .putfield 87, 3), (5, .iload_n 1, 1), (6, .tableswitch 98 0 8 #[50, 55, 60, 65, 70, 75, 80, 85, 90], 50), (56, .aload_n 0, 1), (57, .getfield 23, 3), (60, .ireturn, 1), (61, .aload_n 0, 1), (62, .getfield 26, 3), (65, .ireturn, 1), (66, .aload_n 0, 1), (67, .getfield 151, 3), (70, .ireturn, 1), (71, .aload_n 0, 1), (72, .getfield 154, 3), (75, .ireturn, 1), (76, .aload_n 0, 1), (77, .getfield 157, 3), (80, .ireturn, 1), (81, .aload_n 0, 1), (82, .getfield 16, 3), (85, .ireturn, 1), (86, .aload_n 0, 1), (87, .getfield 20, 3), (90, .ireturn, 1), (91, .aload_n 0, 1), (92, .getfield 96, 3), (95, .ireturn, 1), (96, .aload_n 0, 1), (97, .invokevirtual 214, 3), (100, .invokestatic 239, 3)]
theorem dX11_count_0 : ∀ q ∈ tX11_count_0, decode cX11_count q.1 = .ok q.2 := by decide +kernel
def tX11_count_1 : List (Nat × Instr × Nat) := [(103, .ireturn, 1), (104, .iconst (-1), 1), (105, .ireturn, 1)]
theorem dX11_count_1 : ∀ q ∈ tX11_count_1, decode cX11_count q.1 = .ok q.2 := by decide +kernel
def tX11_keep_0 : List (Nat × Instr × Nat) := [(0, .aload_n 0, 1), (1, .iconst 0, 1), (2, .putfield 87, 3), (5, .iload_n 1, 1), (6, .i2l, 1), (7, .lconst 0, 1), (8, .ldc2_w 203, 3), (11, .invokestatic 92, 3), (14, .ifCond .eq 43, 3), (17, .iload_n 2, 1), (18, .i2l, 1), (19, .lconst 0, 1), (20, .lconst 1, 1), (21, .invokestatic 92, 3), (24, .ifCond .eq 33, 3), (27, .iload_n 2, 1), (28, .iconst 1, 1), (29, .if_icmp .ne 30, 3), (32, .iload_n 3, 1), (33, .i2l, 1), (34, .lconst 0, 1), (35, .ldc2_w 203, 3), (38, .invokestatic 92, 3), (41, .ifCond .eq 16, 3), (44, .iload 4, 2), (46, .i2l, 1), (47, .lconst 0, 1), (48, .ldc2_w 291, 3), (51, .invokestatic 92, 3), (54, .ifCond .ne 5, 3), (57, .iconst (-1), 1), (58, .ireturn, 1)]
theorem dX11_keep_0 : ∀ q ∈ tX11_keep_0, decode cX11_keep q.1 = .ok q.2 := by decide +kernel
def tX11_keep_1 : List (Nat × Instr × Nat) := [(59, .aload_n 0, 1), (60, .getfield 29, 3), (63, .iload_n 1, 1), (64, .iload_n 2, 1), (65, .iastore, 1), (66, .aload_n 0, 1), (67, .getfield 32, 3), (70, .iload_n 1, 1), (71, .iload_n 2, 1), (72, .iconst 1, 1), (73, .if_icmp .ne 7, 3), (76, .iload_n 3, 1), (77, .goto 4, 3), (80, .iconst 0, 1), (81, .iastore, 1), (82, .aload_n 0, 1), (83, .getfield 35, 3), (86, .iload_n 1, 1), (87, .iload_n 2, 1), (88, .iconst 1, 1), (89, .if_icmp .ne 8, 3), (92, .iload 4, 2), (94, .goto 4, 3), (97, .iconst 0, 1), (98, .iastore, 1), (99, .iconst 0, 1), (100, .ireturn, 1)]
theorem dX11_keep_1 : ∀ q ∈ tX11_keep_1, decode cX11_keep q.1 = .ok q.2 := by decide +kernel
def tX11_wrongRow_0 : List (Nat × Instr × Nat) := [(0, .iload_n 1, 1), (1, .i2l, 1), (2, .lconst 0, 1), (3, .ldc2_w 203, 3), (6, .invokestatic 92, 3), (9, .ifCond .ne 7, 3), (12, .iconst (-1), 1), (13, .goto 33, 3), (16, .aload_n 0, 1), (17, .getfield 29, 3), (20, .iload_n 1, 1), (21, .iaload, 1), (22, .ifCond .ne 8, 3), (25, .bipush (-11), 2), (27, .goto 19, 3), (30, .aload_n 0, 1), (31, .getfield 29, 3), (34, .iload_n 1, 1), (35, .iaload, 1), (36, .iconst 2, 1), (37, .if_icmp .eq 8, 3), (40, .bipush (-12), 2), (42, .goto 4, 3), (45, .iconst 0, 1), (46, .ireturn, 1)]
theorem dX11_wrongRow_0 : ∀ q ∈ tX11_wrongRow_0, decode cX11_wrongRow q.1 = .ok q.2 := by decide +kernel
def tX11_narrowed_0 : List (Nat × Instr × Nat) := [(0, .iload_n 1, 1), (1, .ifCond .ne 9, 3), (4, .iload_n 0, 1), (5, .i2b, 1), (6, .i2l, 1), (7, .goto 5, 3), (10, .iload_n 0, 1), (11, .i2l, 1), (12, .lreturn, 1)]
theorem dX11_narrowed_0 : ∀ q ∈ tX11_narrowed_0, decode cX11_narrowed q.1 = .ok q.2 := by decide +kernel
def tX11_row_0 : List (Nat × Instr × Nat) := [(0, .aload_n 0, 1), (1, .iconst 0, 1), (2, .putfield 87, 3), (5, .iload_n 1, 1), (6, .i2l, 1), (7, .lconst 0, 1), (8, .ldc2_w 203, 3), (11, .invokestatic 92, 3), (14, .ifCond .eq 21, 3), (17, .iload_n 2, 1), (18, .i2l, 1), (19, .lconst 0, 1), (20, .ldc2_w 208, 3), (23, .invokestatic 92, 3), (26, .ifCond .eq 9, 3), (29, .iload_n 3, 1), (30, .bipush 100, 2), (32, .if_icmp .le 5, 3), (35, .iconst (-1), 1), (36, .ireturn, 1), (37, .iload_n 3, 1), (38, .ifCond .ge 6, 3), (41, .bipush (-14), 2), (43, .ireturn, 1), (44, .aload_n 0, 1), (45, .getfield 29, 3), (48, .iload_n 1, 1), (49, .iconst 2, 1), (50, .iastore, 1), (51, .aload_n 0, 1), (52, .getfield 38, 3), (55, .iload_n 1, 1)]
theorem dX11_row_0 : ∀ q ∈ tX11_row_0, decode cX11_row q.1 = .ok q.2 := by decide +kernel
def tX11_row_1 : List (Nat × Instr × Nat) := [(56, .iload_n 2, 1), (57, .iastore, 1), (58, .aload_n 0, 1), (59, .getfield 41, 3), (62, .iload_n 1, 1), (63, .iload_n 3, 1), (64, .iastore, 1), (65, .iconst 0, 1), (66, .istore 4, 2), (68, .iload 4, 2), (70, .bipush 100, 2), (72, .if_icmp .ge 22, 3), (75, .aload_n 0, 1), (76, .getfield 44, 3), (79, .bipush 100, 2), (81, .iload_n 1, 1), (82, .imul, 1), (83, .iload 4, 2), (85, .iadd, 1), (86, .lconst 0, 1), (87, .lastore, 1), (88, .iinc 4 1, 3), (91, .goto (-23), 3), (94, .iconst 0, 1), (95, .ireturn, 1)]
theorem dX11_row_1 : ∀ q ∈ tX11_row_1, decode cX11_row q.1 = .ok q.2 := by decide +kernel
def tX11_put_0 : List (Nat × Instr × Nat) := [(0, .aload_n 0, 1), (1, .iconst 0, 1), (2, .putfield 87, 3), (5, .aload_n 0, 1), (6, .iload_n 1, 1), (7, .invokevirtual 168, 3), (10, .istore 4, 2), (12, .iload 4, 2), (14, .ifCond .ge 6, 3), (17, .iload 4, 2), (19, .ireturn, 1), (20, .iload_n 2, 1), (21, .i2l, 1), (22, .lconst 0, 1), (23, .aload_n 0, 1), (24, .getfield 41, 3), (27, .iload_n 1, 1), (28, .iaload, 1), (29, .iconst 1, 1), (30, .isub, 1), (31, .i2l, 1), (32, .invokestatic 92, 3), (35, .ifCond .ne 6, 3), (38, .bipush (-13), 2), (40, .ireturn, 1), (41, .aload_n 0, 1), (42, .getfield 44, 3), (45, .bipush 100, 2), (47, .iload_n 1, 1), (48, .imul, 1), (49, .iload_n 2, 1), (50, .iadd, 1)]
theorem dX11_put_0 : ∀ q ∈ tX11_put_0, decode cX11_put q.1 = .ok q.2 := by decide +kernel
def tX11_put_1 : List (Nat × Instr × Nat) := [(51, .iload_n 3, 1), (52, .aload_n 0, 1), (53, .getfield 38, 3), (56, .iload_n 1, 1), (57, .iaload, 1), (58, .invokestatic 324, 3), (61, .lastore, 1), (62, .iconst 0, 1), (63, .ireturn, 1)]
theorem dX11_put_1 : ∀ q ∈ tX11_put_1, decode cX11_put q.1 = .ok q.2 := by decide +kernel
def tX11_element_0 : List (Nat × Instr × Nat) := [(0, .aload_n 0, 1), (1, .iload_n 1, 1), (2, .invokevirtual 168, 3), (5, .istore_n 3, 1), (6, .aload_n 0, 1), (7, .iload_n 3, 1), (8, .iconst (-1), 1), (9, .if_icmp .ne 7, 3), (12, .iconst 1, 1), (13, .goto 30, 3), (16, .iload_n 3, 1), (17, .ifCond .lt 21, 3), (20, .iload_n 2, 1), (21, .i2l, 1), (22, .lconst 0, 1), (23, .aload_n 0, 1), (24, .getfield 41, 3), (27, .iload_n 1, 1), (28, .iaload, 1), (29, .iconst 1, 1), (30, .isub, 1), (31, .i2l, 1), (32, .invokestatic 92, 3), (35, .ifCond .ne 7, 3), (38, .iconst 2, 1), (39, .goto 4, 3), (42, .iconst 0, 1), (43, .putfield 87, 3), (46, .aload_n 0, 1), (47, .getfield 87, 3), (50, .ifCond .le 7, 3), (53, .lconst 0, 1)]
theorem dX11_element_0 : ∀ q ∈ tX11_element_0, decode cX11_element q.1 = .ok q.2 := by decide +kernel
def tX11_element_1 : List (Nat × Instr × Nat) := [(54, .goto 14, 3), (57, .aload_n 0, 1), (58, .getfield 44, 3), (61, .bipush 100, 2), (63, .iload_n 1, 1), (64, .imul, 1), (65, .iload_n 2, 1), (66, .iadd, 1), (67, .laload, 1), (68, .lreturn, 1)]
theorem dX11_element_1 : ∀ q ∈ tX11_element_1, decode cX11_element q.1 = .ok q.2 := by decide +kernel
def tX11_copy_0 : List (Nat × Instr × Nat) := [(0, .aload_n 0, 1), (1, .iconst 0, 1), (2, .putfield 87, 3), (5, .iload_n 1, 1), (6, .i2l, 1), (7, .lconst 0, 1), (8, .ldc2_w 203, 3), (11, .invokestatic 92, 3), (14, .ifCond .eq 15, 3), (17, .iload_n 3, 1), (18, .i2l, 1), (19, .lconst 0, 1), (20, .ldc2_w 203, 3), (23, .invokestatic 92, 3), (26, .ifCond .ne 5, 3), (29, .iconst (-1), 1), (30, .ireturn, 1), (31, .aload_n 0, 1), (32, .getfield 29, 3), (35, .iload_n 1, 1), (36, .iaload, 1), (37, .ifCond .eq 12, 3), (40, .aload_n 0, 1), (41, .getfield 29, 3), (44, .iload_n 3, 1), (45, .iaload, 1), (46, .ifCond .ne 6, 3), (49, .bipush (-11), 2), (51, .ireturn, 1), (52, .aload_n 0, 1), (53, .getfield 29, 3), (56, .iload_n 1, 1)]
theorem dX11_copy_0 : ∀ q ∈ tX11_copy_0, decode cX11_copy q.1 = .ok q.2 := by decide +kernel
def tX11_copy_1 : List (Nat × Instr × Nat) := [(57, .iaload, 1), (58, .iconst 2, 1), (59, .if_icmp .ne 28, 3), (62, .aload_n 0, 1), (63, .getfield 29, 3), (66, .iload_n 3, 1), (67, .iaload, 1), (68, .iconst 2, 1), (69, .if_icmp .ne 18, 3), (72, .aload_n 0, 1), (73, .getfield 38, 3), (76, .iload_n 1, 1), (77, .iaload, 1), (78, .aload_n 0, 1), (79, .getfield 38, 3), (82, .iload_n 3, 1), (83, .iaload, 1), (84, .if_icmp .eq 6, 3), (87, .bipush (-12), 2), (89, .ireturn, 1), (90, .iload 5, 2), (92, .ifCond .lt 39, 3), (95, .iload_n 2, 1), (96, .ifCond .lt 35, 3), (99, .iload 4, 2), (101, .ifCond .lt 30, 3), (104, .iload_n 2, 1), (105, .aload_n 0, 1), (106, .getfield 41, 3), (109, .iload_n 1, 1), (110, .iaload, 1), (111, .iload 5, 2)]
theorem dX11_copy_1 : ∀ q ∈ tX11_copy_1, decode cX11_copy q.1 = .ok q.2 := by decide +kernel
def tX11_copy_2 : List (Nat × Instr × Nat) := [(113, .isub, 1), (114, .if_icmp .gt 17, 3), (117, .iload 4, 2), (119, .aload_n 0, 1), (120, .getfield 41, 3), (123, .iload_n 3, 1), (124, .iaload, 1), (125, .iload 5, 2), (127, .isub, 1), (128, .if_icmp .le 6, 3), (131, .bipush (-13), 2), (133, .ireturn, 1), (134, .iconst 0, 1), (135, .istore 6, 2), (137, .iload 6, 2), (139, .iload 5, 2), (141, .if_icmp .ge 30, 3), (144, .aload_n 0, 1), (145, .getfield 84, 3), (148, .iload 6, 2), (150, .aload_n 0, 1), (151, .getfield 44, 3), (154, .bipush 100, 2), (156, .iload_n 1, 1), (157, .imul, 1), (158, .iload_n 2, 1), (159, .iadd, 1), (160, .iload 6, 2), (162, .iadd, 1), (163, .laload, 1), (164, .lastore, 1), (165, .iinc 6 1, 3)]
theorem dX11_copy_2 : ∀ q ∈ tX11_copy_2, decode cX11_copy q.1 = .ok q.2 := by decide +kernel
def tX11_copy_3 : List (Nat × Instr × Nat) := [(168, .goto (-31), 3), (171, .iconst 0, 1), (172, .istore 6, 2), (174, .iload 6, 2), (176, .iload 5, 2), (178, .if_icmp .ge 31, 3), (181, .aload_n 0, 1), (182, .getfield 44, 3), (185, .bipush 100, 2), (187, .iload_n 3, 1), (188, .imul, 1), (189, .iload 4, 2), (191, .iadd, 1), (192, .iload 6, 2), (194, .iadd, 1), (195, .aload_n 0, 1), (196, .getfield 84, 3), (199, .iload 6, 2), (201, .laload, 1), (202, .lastore, 1), (203, .iinc 6 1, 3), (206, .goto (-32), 3), (209, .iload 5, 2), (211, .ireturn, 1)]
theorem dX11_copy_3 : ∀ q ∈ tX11_copy_3, decode cX11_copy q.1 = .ok q.2 := by decide +kernel
def tX11_costOf_0 : List (Nat × Instr × Nat) := [(0, .iload_n 0, 1), (1, .tableswitch 75 0 6 #[43, 45, 47, 49, 52, 67, 70], 43), (44, .iconst 3, 1), (45, .ireturn, 1), (46, .iconst 1, 1), (47, .ireturn, 1), (48, .iconst 4, 1), (49, .ireturn, 1), (50, .bipush 8, 2), (52, .ireturn, 1), (53, .iload_n 1, 1), (54, .bipush 7, 2), (56, .if_icmp .le 7, 3), (59, .iconst 1, 1), (60, .goto 7, 3), (63, .bipush 8, 2), (65, .iload_n 1, 1), (66, .isub, 1), (67, .ireturn, 1), (68, .bipush 9, 2), (70, .ireturn, 1), (71, .bipush 9, 2), (73, .iload_n 1, 1), (74, .iadd, 1), (75, .ireturn, 1), (76, .iconst 3, 1), (77, .iload_n 1, 1), (78, .iadd, 1), (79, .ireturn, 1)]
theorem dX11_costOf_0 : ∀ q ∈ tX11_costOf_0, decode cX11_costOf q.1 = .ok q.2 := by decide +kernel
def tX11_cost_0 : List (Nat × Instr × Nat) := [(0, .aload_n 0, 1), (1, .iconst 0, 1), (2, .putfield 87, 3), (5, .aload_n 0, 1), (6, .iload_n 1, 1), (7, .invokevirtual 205, 3), (10, .ifCond .ge 11, 3), (13, .aload_n 0, 1), (14, .iload_n 1, 1), (15, .invokevirtual 205, 3), (18, .goto 18, 3), (21, .aload_n 0, 1), (22, .getfield 32, 3), (25, .iload_n 1, 1), (26, .iaload, 1), (27, .aload_n 0, 1), (28, .getfield 35, 3), (31, .iload_n 1, 1), (32, .iaload, 1), (33, .invokestatic 328, 3), (36, .ireturn, 1)]
theorem dX11_cost_0 : ∀ q ∈ tX11_cost_0, decode cX11_cost q.1 = .ok q.2 := by decide +kernel
def tX11_toss_0 : List (Nat × Instr × Nat) := [(0, .aload_n 0, 1), (1, .iconst 0, 1), (2, .putfield 87, 3), (5, .aload_n 0, 1), (6, .iload_n 1, 1), (7, .invokevirtual 205, 3), (10, .ifCond .ge 9, 3), (13, .aload_n 0, 1), (14, .iload_n 1, 1), (15, .invokevirtual 205, 3), (18, .ireturn, 1), (19, .aload_n 0, 1), (20, .getfield 32, 3), (23, .iload_n 1, 1), (24, .iaload, 1), (25, .istore_n 2, 1), (26, .aload_n 0, 1), (27, .getfield 35, 3), (30, .iload_n 1, 1), (31, .iaload, 1), (32, .istore_n 3, 1), (33, .iload_n 2, 1), (34, .iconst 1, 1), (35, .if_icmp .eq 7, 3), (38, .iload_n 3, 1), (39, .ifCond .ne 6, 3), (42, .bipush (-15), 2), (44, .ireturn, 1), (45, .iload_n 2, 1), (46, .iconst 2, 1), (47, .if_icmp .eq 8, 3), (50, .iload_n 2, 1)]
theorem dX11_toss_0 : ∀ q ∈ tX11_toss_0, decode cX11_toss q.1 = .ok q.2 := by decide +kernel
def tX11_toss_1 : List (Nat × Instr × Nat) := [(51, .iconst 3, 1), (52, .if_icmp .ne 10, 3), (55, .bipush 100, 2), (57, .iload_n 3, 1), (58, .iadd, 1), (59, .goto 21, 3), (62, .iload_n 2, 1), (63, .iconst 4, 1), (64, .if_icmp .ne 15, 3), (67, .sipush 200, 3), (70, .iload_n 2, 1), (71, .iload_n 3, 1), (72, .invokestatic 328, 3), (75, .iadd, 1), (76, .goto 4, 3), (79, .iload_n 3, 1), (80, .ireturn, 1)]
theorem dX11_toss_1 : ∀ q ∈ tX11_toss_1, decode cX11_toss q.1 = .ok q.2 := by decide +kernel
def tJ13_bitCount_95d88_0 : List (Nat × Instr × Nat) := [(0, .lload_n 0, 1), (1, .lload_n 0, 1), (2, .iconst 1, 1), (3, .lushr, 1), (4, .ldc2_w 314, 3), (7, .land, 1), (8, .lsub, 1), (9, .lstore_n 0, 1), (10, .lload_n 0, 1), (11, .ldc2_w 316, 3), (14, .land, 1), (15, .lload_n 0, 1), (16, .iconst 2, 1), (17, .lushr, 1), (18, .ldc2_w 316, 3), (21, .land, 1), (22, .ladd, 1), (23, .lstore_n 0, 1), (24, .lload_n 0, 1), (25, .lload_n 0, 1), (26, .iconst 4, 1), (27, .lushr, 1), (28, .ladd, 1), (29, .ldc2_w 318, 3), (32, .land, 1), (33, .lstore_n 0, 1), (34, .lload_n 0, 1), (35, .lload_n 0, 1), (36, .bipush 8, 2), (38, .lushr, 1), (39, .ladd, 1), (40, .lstore_n 0, 1)]
theorem dJ13_bitCount_95d88_0 : ∀ q ∈ tJ13_bitCount_95d88_0, decode cJ13_bitCount_95d88 q.1 = .ok q.2 := by decide +kernel
def tJ13_bitCount_95d88_1 : List (Nat × Instr × Nat) := [(41, .lload_n 0, 1), (42, .lload_n 0, 1), (43, .bipush 16, 2), (45, .lushr, 1), (46, .ladd, 1), (47, .lstore_n 0, 1), (48, .lload_n 0, 1), (49, .lload_n 0, 1), (50, .bipush 32, 2), (52, .lushr, 1), (53, .ladd, 1), (54, .lstore_n 0, 1), (55, .lload_n 0, 1), (56, .l2i, 1), (57, .bipush 127, 2), (59, .iand, 1), (60, .ireturn, 1)]
theorem dJ13_bitCount_95d88_1 : ∀ q ∈ tJ13_bitCount_95d88_1, decode cJ13_bitCount_95d88 q.1 = .ok q.2 := by decide +kernel
def tJ9_abs_0f7a4_0 : List (Nat × Instr × Nat) := [(0, .iload_n 0, 1), (1, .ifCond .ge 8, 3), (4, .iload_n 0, 1), (5, .ineg, 1), (6, .goto 4, 3), (9, .iload_n 0, 1), (10, .ireturn, 1)]
theorem dJ9_abs_0f7a4_0 : ∀ q ∈ tJ9_abs_0f7a4_0, decode cJ9_abs_0f7a4 q.1 = .ok q.2 := by decide +kernel
def tJ9_max_7cf53_0 : List (Nat × Instr × Nat) := [(0, .iload_n 0, 1), (1, .iload_n 1, 1), (2, .if_icmp .lt 7, 3), (5, .iload_n 0, 1), (6, .goto 4, 3), (9, .iload_n 1, 1), (10, .ireturn, 1)]
theorem dJ9_max_7cf53_0 : ∀ q ∈ tJ9_max_7cf53_0, decode cJ9_max_7cf53 q.1 = .ok q.2 := by decide +kernel
def tJ9_min_7cf53_0 : List (Nat × Instr × Nat) := [(0, .iload_n 0, 1), (1, .iload_n 1, 1), (2, .if_icmp .gt 7, 3), (5, .iload_n 0, 1), (6, .goto 4, 3), (9, .iload_n 1, 1), (10, .ireturn, 1)]
theorem dJ9_min_7cf53_0 : ∀ q ∈ tJ9_min_7cf53_0, decode cJ9_min_7cf53 q.1 = .ok q.2 := by decide +kernel
def tJ7_fill_d0a16_0 : List (Nat × Instr × Nat) := [(0, .iconst 0, 1), (1, .istore_n 3, 1), (2, .aload_n 0, 1), (3, .arraylength, 1), (4, .istore 4, 2), (6, .iload_n 3, 1), (7, .iload 4, 2), (9, .if_icmp .ge 13, 3), (12, .aload_n 0, 1), (13, .iload_n 3, 1), (14, .lload_n 1, 1), (15, .lastore, 1), (16, .iinc 3 1, 3), (19, .goto (-13), 3), (22, .return_, 1)]
theorem dJ7_fill_d0a16_0 : ∀ q ∈ tJ7_fill_d0a16_0, decode cJ7_fill_d0a16 q.1 = .ok q.2 := by decide +kernel
def tJ7_fill_53178_0 : List (Nat × Instr × Nat) := [(0, .iconst 0, 1), (1, .istore_n 2, 1), (2, .aload_n 0, 1), (3, .arraylength, 1), (4, .istore_n 3, 1), (5, .iload_n 2, 1), (6, .iload_n 3, 1), (7, .if_icmp .ge 13, 3), (10, .aload_n 0, 1), (11, .iload_n 2, 1), (12, .iload_n 1, 1), (13, .iastore, 1), (14, .iinc 2 1, 3), (17, .goto (-12), 3), (20, .return_, 1)]
theorem dJ7_fill_53178_0 : ∀ q ∈ tJ7_fill_53178_0, decode cJ7_fill_53178 q.1 = .ok q.2 := by decide +kernel
def tL_element_0 : List (Nat × Instr × Nat) := [(0, .aload_n 3, 1), (1, .iconst 0, 1), (2, .aload_n 0, 1), (3, .iload_n 1, 1), (4, .iload_n 2, 1), (5, .invokevirtual 7, 3), (8, .lastore, 1), (9, .goto 11, 3), (12, .astore 4, 2), (14, .iconst 1, 1), (15, .ireturn, 1), (16, .astore 4, 2), (18, .iconst 2, 1), (19, .ireturn, 1), (20, .iconst 0, 1), (21, .ireturn, 1)]
theorem dL_element_0 : ∀ q ∈ tL_element_0, decode cL_element q.1 = .ok q.2 := by decide +kernel
def tL_law_0 : List (Nat × Instr × Nat) := [(0, .new 8, 3), (3, .dup, 1), (4, .invokespecial 17, 3), (7, .astore_n 1, 1), (8, .new 18, 3), (11, .dup, 1), (12, .invokespecial 20, 3), (15, .astore_n 2, 1), (16, .iconst 1, 1), (17, .newarray .long, 2), (19, .astore_n 3, 1), (20, .iconst 0, 1), (21, .istore 4, 2), (23, .iload 4, 2), (25, .aload_n 0, 1), (26, .arraylength, 1), (27, .bipush 6, 2), (29, .isub, 1), (30, .if_icmp .gt 1522, 3), (33, .aload_n 0, 1), (34, .iload 4, 2), (36, .iaload, 1), (37, .bipush 63, 2), (39, .iand, 1), (40, .tableswitch 1506 0 38 #[172, 197, 234, 271, 308, 345, 382, 419, 456, 481, 494, 519, 544, 581, 630, 667, 704, 729, 755, 781, 818, 856, 881, 906, 931, 981, 1007, 1032, 1057, 1106, 1119, 1132, 1157, 1218, 1267, 1316, 1383, 1456, 1481], 172), (212, .aload_n 1, 1), (213, .aload_n 0, 1), (214, .iload 4, 2), (216, .iconst 1, 1), (217, .iadd, 1), (218, .iaload, 1), (219, .invokevirtual 21, 3)]
theorem dL_law_0 : ∀ q ∈ tL_law_0, decode cL_law q.1 = .ok q.2 := by decide +kernel
def tL_law_1 : List (Nat × Instr × Nat) := [(222, .aload_n 2, 1), (223, .aload_n 0, 1), (224, .iload 4, 2), (226, .iconst 1, 1), (227, .iadd, 1), (228, .iaload, 1), (229, .invokevirtual 25, 3), (232, .if_icmp .eq 1314, 3), (235, .iconst 0, 1), (236, .ireturn, 1), (237, .aload_n 1, 1), (238, .aload_n 0, 1), (239, .iload 4, 2), (241, .iconst 1, 1), (242, .iadd, 1), (243, .iaload, 1), (244, .aload_n 0, 1), (245, .iload 4, 2), (247, .iconst 2, 1), (248, .iadd, 1), (249, .iaload, 1), (250, .invokevirtual 26, 3), (253, .aload_n 2, 1), (254, .aload_n 0, 1), (255, .iload 4, 2), (257, .iconst 1, 1), (258, .iadd, 1), (259, .iaload, 1), (260, .aload_n 0, 1), (261, .iload 4, 2), (263, .iconst 2, 1), (264, .iadd, 1)]
theorem dL_law_1 : ∀ q ∈ tL_law_1, decode cL_law q.1 = .ok q.2 := by decide +kernel
def tL_law_2 : List (Nat × Instr × Nat) := [(265, .iaload, 1), (266, .invokevirtual 30, 3), (269, .if_icmp .eq 1277, 3), (272, .iconst 0, 1), (273, .ireturn, 1), (274, .aload_n 1, 1), (275, .aload_n 0, 1), (276, .iload 4, 2), (278, .iconst 1, 1), (279, .iadd, 1), (280, .iaload, 1), (281, .aload_n 0, 1), (282, .iload 4, 2), (284, .iconst 2, 1), (285, .iadd, 1), (286, .iaload, 1), (287, .invokevirtual 31, 3), (290, .aload_n 2, 1), (291, .aload_n 0, 1), (292, .iload 4, 2), (294, .iconst 1, 1), (295, .iadd, 1), (296, .iaload, 1), (297, .aload_n 0, 1), (298, .iload 4, 2), (300, .iconst 2, 1), (301, .iadd, 1), (302, .iaload, 1), (303, .invokevirtual 34, 3), (306, .if_icmp .eq 1240, 3), (309, .iconst 0, 1), (310, .ireturn, 1)]
theorem dL_law_2 : ∀ q ∈ tL_law_2, decode cL_law q.1 = .ok q.2 := by decide +kernel
def tL_law_3 : List (Nat × Instr × Nat) := [(311, .aload_n 1, 1), (312, .aload_n 0, 1), (313, .iload 4, 2), (315, .iconst 1, 1), (316, .iadd, 1), (317, .iaload, 1), (318, .aload_n 0, 1), (319, .iload 4, 2), (321, .iconst 2, 1), (322, .iadd, 1), (323, .iaload, 1), (324, .invokevirtual 35, 3), (327, .aload_n 2, 1), (328, .aload_n 0, 1), (329, .iload 4, 2), (331, .iconst 1, 1), (332, .iadd, 1), (333, .iaload, 1), (334, .aload_n 0, 1), (335, .iload 4, 2), (337, .iconst 2, 1), (338, .iadd, 1), (339, .iaload, 1), (340, .invokevirtual 38, 3), (343, .if_icmp .eq 1203, 3), (346, .iconst 0, 1), (347, .ireturn, 1), (348, .aload_n 1, 1), (349, .aload_n 0, 1), (350, .iload 4, 2), (352, .iconst 1, 1), (353, .iadd, 1)]
theorem dL_law_3 : ∀ q ∈ tL_law_3, decode cL_law q.1 = .ok q.2 := by decide +kernel
def tL_law_4 : List (Nat × Instr × Nat) := [(354, .iaload, 1), (355, .aload_n 0, 1), (356, .iload 4, 2), (358, .iconst 2, 1), (359, .iadd, 1), (360, .iaload, 1), (361, .invokevirtual 39, 3), (364, .aload_n 2, 1), (365, .aload_n 0, 1), (366, .iload 4, 2), (368, .iconst 1, 1), (369, .iadd, 1), (370, .iaload, 1), (371, .aload_n 0, 1), (372, .iload 4, 2), (374, .iconst 2, 1), (375, .iadd, 1), (376, .iaload, 1), (377, .invokevirtual 42, 3), (380, .if_icmp .eq 1166, 3), (383, .iconst 0, 1), (384, .ireturn, 1), (385, .aload_n 1, 1), (386, .aload_n 0, 1), (387, .iload 4, 2), (389, .iconst 1, 1), (390, .iadd, 1), (391, .iaload, 1), (392, .aload_n 0, 1), (393, .iload 4, 2), (395, .iconst 2, 1), (396, .iadd, 1)]
theorem dL_law_4 : ∀ q ∈ tL_law_4, decode cL_law q.1 = .ok q.2 := by decide +kernel
def tL_law_5 : List (Nat × Instr × Nat) := [(397, .iaload, 1), (398, .invokevirtual 43, 3), (401, .aload_n 2, 1), (402, .aload_n 0, 1), (403, .iload 4, 2), (405, .iconst 1, 1), (406, .iadd, 1), (407, .iaload, 1), (408, .aload_n 0, 1), (409, .iload 4, 2), (411, .iconst 2, 1), (412, .iadd, 1), (413, .iaload, 1), (414, .invokevirtual 46, 3), (417, .if_icmp .eq 1129, 3), (420, .iconst 0, 1), (421, .ireturn, 1), (422, .aload_n 1, 1), (423, .aload_n 0, 1), (424, .iload 4, 2), (426, .iconst 1, 1), (427, .iadd, 1), (428, .iaload, 1), (429, .aload_n 0, 1), (430, .iload 4, 2), (432, .iconst 2, 1), (433, .iadd, 1), (434, .iaload, 1), (435, .invokevirtual 47, 3), (438, .aload_n 2, 1), (439, .aload_n 0, 1), (440, .iload 4, 2)]
theorem dL_law_5 : ∀ q ∈ tL_law_5, decode cL_law q.1 = .ok q.2 := by decide +kernel
def tL_law_6 : List (Nat × Instr × Nat) := [(442, .iconst 1, 1), (443, .iadd, 1), (444, .iaload, 1), (445, .aload_n 0, 1), (446, .iload 4, 2), (448, .iconst 2, 1), (449, .iadd, 1), (450, .iaload, 1), (451, .invokevirtual 50, 3), (454, .if_icmp .eq 1092, 3), (457, .iconst 0, 1), (458, .ireturn, 1), (459, .aload_n 1, 1), (460, .aload_n 0, 1), (461, .iload 4, 2), (463, .iconst 1, 1), (464, .iadd, 1), (465, .iaload, 1), (466, .aload_n 0, 1), (467, .iload 4, 2), (469, .iconst 2, 1), (470, .iadd, 1), (471, .iaload, 1), (472, .invokevirtual 51, 3), (475, .aload_n 2, 1), (476, .aload_n 0, 1), (477, .iload 4, 2), (479, .iconst 1, 1), (480, .iadd, 1), (481, .iaload, 1), (482, .aload_n 0, 1), (483, .iload 4, 2)]
theorem dL_law_6 : ∀ q ∈ tL_law_6, decode cL_law q.1 = .ok q.2 := by decide +kernel
def tL_law_7 : List (Nat × Instr × Nat) := [(485, .iconst 2, 1), (486, .iadd, 1), (487, .iaload, 1), (488, .invokevirtual 54, 3), (491, .if_icmp .eq 1055, 3), (494, .iconst 0, 1), (495, .ireturn, 1), (496, .aload_n 1, 1), (497, .aload_n 0, 1), (498, .iload 4, 2), (500, .iconst 1, 1), (501, .iadd, 1), (502, .iaload, 1), (503, .invokevirtual 55, 3), (506, .aload_n 2, 1), (507, .aload_n 0, 1), (508, .iload 4, 2), (510, .iconst 1, 1), (511, .iadd, 1), (512, .iaload, 1), (513, .invokevirtual 58, 3), (516, .if_icmp .eq 1030, 3), (519, .iconst 0, 1), (520, .ireturn, 1), (521, .aload_n 1, 1), (522, .invokevirtual 59, 3), (525, .aload_n 2, 1), (526, .invokevirtual 63, 3), (529, .if_icmp .eq 1017, 3), (532, .iconst 0, 1), (533, .ireturn, 1), (534, .aload_n 1, 1)]
theorem dL_law_7 : ∀ q ∈ tL_law_7, decode cL_law q.1 = .ok q.2 := by decide +kernel
def tL_law_8 : List (Nat × Instr × Nat) := [(535, .aload_n 0, 1), (536, .iload 4, 2), (538, .iconst 1, 1), (539, .iadd, 1), (540, .iaload, 1), (541, .invokevirtual 64, 3), (544, .aload_n 2, 1), (545, .aload_n 0, 1), (546, .iload 4, 2), (548, .iconst 1, 1), (549, .iadd, 1), (550, .iaload, 1), (551, .invokevirtual 67, 3), (554, .if_icmp .eq 992, 3), (557, .iconst 0, 1), (558, .ireturn, 1), (559, .aload_n 1, 1), (560, .aload_n 0, 1), (561, .iload 4, 2), (563, .iconst 1, 1), (564, .iadd, 1), (565, .iaload, 1), (566, .invokevirtual 68, 3), (569, .aload_n 2, 1), (570, .aload_n 0, 1), (571, .iload 4, 2), (573, .iconst 1, 1), (574, .iadd, 1), (575, .iaload, 1), (576, .invokevirtual 71, 3), (579, .if_icmp .eq 967, 3), (582, .iconst 0, 1)]
theorem dL_law_8 : ∀ q ∈ tL_law_8, decode cL_law q.1 = .ok q.2 := by decide +kernel
def tL_law_9 : List (Nat × Instr × Nat) := [(583, .ireturn, 1), (584, .aload_n 1, 1), (585, .aload_n 0, 1), (586, .iload 4, 2), (588, .iconst 1, 1), (589, .iadd, 1), (590, .iaload, 1), (591, .aload_n 0, 1), (592, .iload 4, 2), (594, .iconst 2, 1), (595, .iadd, 1), (596, .iaload, 1), (597, .invokevirtual 72, 3), (600, .aload_n 2, 1), (601, .aload_n 0, 1), (602, .iload 4, 2), (604, .iconst 1, 1), (605, .iadd, 1), (606, .iaload, 1), (607, .aload_n 0, 1), (608, .iload 4, 2), (610, .iconst 2, 1), (611, .iadd, 1), (612, .iaload, 1), (613, .invokevirtual 75, 3), (616, .if_icmp .eq 930, 3), (619, .iconst 0, 1), (620, .ireturn, 1), (621, .aload_n 1, 1), (622, .aload_n 0, 1), (623, .iload 4, 2), (625, .iconst 1, 1)]
theorem dL_law_9 : ∀ q ∈ tL_law_9, decode cL_law q.1 = .ok q.2 := by decide +kernel
def tL_law_10 : List (Nat × Instr × Nat) := [(626, .iadd, 1), (627, .iaload, 1), (628, .aload_n 0, 1), (629, .iload 4, 2), (631, .iconst 2, 1), (632, .iadd, 1), (633, .iaload, 1), (634, .aload_n 0, 1), (635, .iload 4, 2), (637, .iconst 3, 1), (638, .iadd, 1), (639, .iaload, 1), (640, .invokevirtual 76, 3), (643, .aload_n 2, 1), (644, .aload_n 0, 1), (645, .iload 4, 2), (647, .iconst 1, 1), (648, .iadd, 1), (649, .iaload, 1), (650, .aload_n 0, 1), (651, .iload 4, 2), (653, .iconst 2, 1), (654, .iadd, 1), (655, .iaload, 1), (656, .aload_n 0, 1), (657, .iload 4, 2), (659, .iconst 3, 1), (660, .iadd, 1), (661, .iaload, 1), (662, .invokevirtual 80, 3), (665, .if_icmp .eq 881, 3), (668, .iconst 0, 1)]
theorem dL_law_10 : ∀ q ∈ tL_law_10, decode cL_law q.1 = .ok q.2 := by decide +kernel
def tL_law_11 : List (Nat × Instr × Nat) := [(669, .ireturn, 1), (670, .aload_n 1, 1), (671, .aload_n 0, 1), (672, .iload 4, 2), (674, .iconst 1, 1), (675, .iadd, 1), (676, .iaload, 1), (677, .aload_n 0, 1), (678, .iload 4, 2), (680, .iconst 2, 1), (681, .iadd, 1), (682, .iaload, 1), (683, .invokevirtual 81, 3), (686, .aload_n 2, 1), (687, .aload_n 0, 1), (688, .iload 4, 2), (690, .iconst 1, 1), (691, .iadd, 1), (692, .iaload, 1), (693, .aload_n 0, 1), (694, .iload 4, 2), (696, .iconst 2, 1), (697, .iadd, 1), (698, .iaload, 1), (699, .invokevirtual 84, 3), (702, .if_icmp .eq 844, 3), (705, .iconst 0, 1), (706, .ireturn, 1), (707, .aload_n 1, 1), (708, .aload_n 0, 1), (709, .iload 4, 2), (711, .iconst 1, 1)]
theorem dL_law_11 : ∀ q ∈ tL_law_11, decode cL_law q.1 = .ok q.2 := by decide +kernel
def tL_law_12 : List (Nat × Instr × Nat) := [(712, .iadd, 1), (713, .iaload, 1), (714, .aload_n 0, 1), (715, .iload 4, 2), (717, .iconst 2, 1), (718, .iadd, 1), (719, .iaload, 1), (720, .invokevirtual 85, 3), (723, .aload_n 2, 1), (724, .aload_n 0, 1), (725, .iload 4, 2), (727, .iconst 1, 1), (728, .iadd, 1), (729, .iaload, 1), (730, .aload_n 0, 1), (731, .iload 4, 2), (733, .iconst 2, 1), (734, .iadd, 1), (735, .iaload, 1), (736, .invokevirtual 88, 3), (739, .if_icmp .eq 807, 3), (742, .iconst 0, 1), (743, .ireturn, 1), (744, .aload_n 1, 1), (745, .aload_n 0, 1), (746, .iload 4, 2), (748, .iconst 1, 1), (749, .iadd, 1), (750, .iaload, 1), (751, .invokevirtual 89, 3), (754, .aload_n 2, 1), (755, .aload_n 0, 1)]
theorem dL_law_12 : ∀ q ∈ tL_law_12, decode cL_law q.1 = .ok q.2 := by decide +kernel
def tL_law_13 : List (Nat × Instr × Nat) := [(756, .iload 4, 2), (758, .iconst 1, 1), (759, .iadd, 1), (760, .iaload, 1), (761, .invokevirtual 92, 3), (764, .if_icmp .eq 782, 3), (767, .iconst 0, 1), (768, .ireturn, 1), (769, .aload_n 1, 1), (770, .aload_n 0, 1), (771, .iload 4, 2), (773, .iconst 1, 1), (774, .iadd, 1), (775, .iaload, 1), (776, .invokevirtual 93, 3), (779, .aload_n 2, 1), (780, .aload_n 0, 1), (781, .iload 4, 2), (783, .iconst 1, 1), (784, .iadd, 1), (785, .iaload, 1), (786, .invokevirtual 97, 3), (789, .lcmp, 1), (790, .ifCond .eq 756, 3), (793, .iconst 0, 1), (794, .ireturn, 1), (795, .aload_n 1, 1), (796, .aload_n 0, 1), (797, .iload 4, 2), (799, .iconst 1, 1), (800, .iadd, 1), (801, .iaload, 1)]
theorem dL_law_13 : ∀ q ∈ tL_law_13, decode cL_law q.1 = .ok q.2 := by decide +kernel
def tL_law_14 : List (Nat × Instr × Nat) := [(802, .invokevirtual 98, 3), (805, .aload_n 2, 1), (806, .aload_n 0, 1), (807, .iload 4, 2), (809, .iconst 1, 1), (810, .iadd, 1), (811, .iaload, 1), (812, .invokevirtual 101, 3), (815, .lcmp, 1), (816, .ifCond .eq 730, 3), (819, .iconst 0, 1), (820, .ireturn, 1), (821, .aload_n 1, 1), (822, .aload_n 0, 1), (823, .iload 4, 2), (825, .iconst 1, 1), (826, .iadd, 1), (827, .iaload, 1), (828, .aload_n 0, 1), (829, .iload 4, 2), (831, .iconst 2, 1), (832, .iadd, 1), (833, .iaload, 1), (834, .invokevirtual 102, 3), (837, .aload_n 2, 1), (838, .aload_n 0, 1), (839, .iload 4, 2), (841, .iconst 1, 1), (842, .iadd, 1), (843, .iaload, 1), (844, .aload_n 0, 1), (845, .iload 4, 2)]
theorem dL_law_14 : ∀ q ∈ tL_law_14, decode cL_law q.1 = .ok q.2 := by decide +kernel
def tL_law_15 : List (Nat × Instr × Nat) := [(847, .iconst 2, 1), (848, .iadd, 1), (849, .iaload, 1), (850, .invokevirtual 105, 3), (853, .if_icmp .eq 693, 3), (856, .iconst 0, 1), (857, .ireturn, 1), (858, .aload_n 1, 1), (859, .aload_n 0, 1), (860, .iload 4, 2), (862, .iconst 1, 1), (863, .iadd, 1), (864, .iaload, 1), (865, .aload_n 0, 1), (866, .iload 4, 2), (868, .iconst 2, 1), (869, .iadd, 1), (870, .iaload, 1), (871, .invokevirtual 106, 3), (874, .aload_n 2, 1), (875, .aload_n 0, 1), (876, .iload 4, 2), (878, .iconst 1, 1), (879, .iadd, 1), (880, .iaload, 1), (881, .aload_n 0, 1), (882, .iload 4, 2), (884, .iconst 2, 1), (885, .iadd, 1), (886, .iaload, 1), (887, .invokevirtual 109, 3), (890, .lcmp, 1)]
theorem dL_law_15 : ∀ q ∈ tL_law_15, decode cL_law q.1 = .ok q.2 := by decide +kernel
def tL_law_16 : List (Nat × Instr × Nat) := [(891, .ifCond .eq 655, 3), (894, .iconst 0, 1), (895, .ireturn, 1), (896, .aload_n 1, 1), (897, .aload_n 0, 1), (898, .iload 4, 2), (900, .iconst 1, 1), (901, .iadd, 1), (902, .iaload, 1), (903, .invokevirtual 110, 3), (906, .aload_n 2, 1), (907, .aload_n 0, 1), (908, .iload 4, 2), (910, .iconst 1, 1), (911, .iadd, 1), (912, .iaload, 1), (913, .invokevirtual 113, 3), (916, .if_icmp .eq 630, 3), (919, .iconst 0, 1), (920, .ireturn, 1), (921, .aload_n 1, 1), (922, .aload_n 0, 1), (923, .iload 4, 2), (925, .iconst 1, 1), (926, .iadd, 1), (927, .iaload, 1), (928, .invokevirtual 114, 3), (931, .aload_n 2, 1), (932, .aload_n 0, 1), (933, .iload 4, 2), (935, .iconst 1, 1), (936, .iadd, 1)]
theorem dL_law_16 : ∀ q ∈ tL_law_16, decode cL_law q.1 = .ok q.2 := by decide +kernel
def tL_law_17 : List (Nat × Instr × Nat) := [(937, .iaload, 1), (938, .invokevirtual 117, 3), (941, .if_icmp .eq 605, 3), (944, .iconst 0, 1), (945, .ireturn, 1), (946, .aload_n 1, 1), (947, .aload_n 0, 1), (948, .iload 4, 2), (950, .iconst 1, 1), (951, .iadd, 1), (952, .iaload, 1), (953, .invokevirtual 118, 3), (956, .aload_n 2, 1), (957, .aload_n 0, 1), (958, .iload 4, 2), (960, .iconst 1, 1), (961, .iadd, 1), (962, .iaload, 1), (963, .invokevirtual 121, 3), (966, .if_icmp .eq 580, 3), (969, .iconst 0, 1), (970, .ireturn, 1), (971, .aload_n 1, 1), (972, .aload_n 0, 1), (973, .iload 4, 2), (975, .iconst 1, 1), (976, .iadd, 1), (977, .iaload, 1), (978, .aload_n 0, 1), (979, .iload 4, 2), (981, .iconst 2, 1), (982, .iadd, 1)]
theorem dL_law_17 : ∀ q ∈ tL_law_17, decode cL_law q.1 = .ok q.2 := by decide +kernel
def tL_law_18 : List (Nat × Instr × Nat) := [(983, .iaload, 1), (984, .aload_n 0, 1), (985, .iload 4, 2), (987, .iconst 3, 1), (988, .iadd, 1), (989, .iaload, 1), (990, .invokevirtual 122, 3), (993, .aload_n 2, 1), (994, .aload_n 0, 1), (995, .iload 4, 2), (997, .iconst 1, 1), (998, .iadd, 1), (999, .iaload, 1), (1000, .aload_n 0, 1), (1001, .iload 4, 2), (1003, .iconst 2, 1), (1004, .iadd, 1), (1005, .iaload, 1), (1006, .aload_n 0, 1), (1007, .iload 4, 2), (1009, .iconst 3, 1), (1010, .iadd, 1), (1011, .iaload, 1), (1012, .invokevirtual 126, 3), (1015, .lcmp, 1), (1016, .ifCond .eq 530, 3), (1019, .iconst 0, 1), (1020, .ireturn, 1), (1021, .aload_n 1, 1), (1022, .aload_n 0, 1), (1023, .iload 4, 2), (1025, .iconst 1, 1)]
theorem dL_law_18 : ∀ q ∈ tL_law_18, decode cL_law q.1 = .ok q.2 := by decide +kernel
def tL_law_19 : List (Nat × Instr × Nat) := [(1026, .iadd, 1), (1027, .iaload, 1), (1028, .invokevirtual 127, 3), (1031, .aload_n 2, 1), (1032, .aload_n 0, 1), (1033, .iload 4, 2), (1035, .iconst 1, 1), (1036, .iadd, 1), (1037, .iaload, 1), (1038, .invokevirtual 130, 3), (1041, .lcmp, 1), (1042, .ifCond .eq 504, 3), (1045, .iconst 0, 1), (1046, .ireturn, 1), (1047, .aload_n 1, 1), (1048, .aload_n 0, 1), (1049, .iload 4, 2), (1051, .iconst 1, 1), (1052, .iadd, 1), (1053, .iaload, 1), (1054, .invokevirtual 131, 3), (1057, .aload_n 2, 1), (1058, .aload_n 0, 1), (1059, .iload 4, 2), (1061, .iconst 1, 1), (1062, .iadd, 1), (1063, .iaload, 1), (1064, .invokevirtual 134, 3), (1067, .if_icmp .eq 479, 3), (1070, .iconst 0, 1), (1071, .ireturn, 1), (1072, .aload_n 1, 1)]
theorem dL_law_19 : ∀ q ∈ tL_law_19, decode cL_law q.1 = .ok q.2 := by decide +kernel
def tL_law_20 : List (Nat × Instr × Nat) := [(1073, .aload_n 0, 1), (1074, .iload 4, 2), (1076, .iconst 1, 1), (1077, .iadd, 1), (1078, .iaload, 1), (1079, .invokevirtual 135, 3), (1082, .aload_n 2, 1), (1083, .aload_n 0, 1), (1084, .iload 4, 2), (1086, .iconst 1, 1), (1087, .iadd, 1), (1088, .iaload, 1), (1089, .invokevirtual 138, 3), (1092, .if_icmp .eq 454, 3), (1095, .iconst 0, 1), (1096, .ireturn, 1), (1097, .aload_n 1, 1), (1098, .aload_n 0, 1), (1099, .iload 4, 2), (1101, .iconst 1, 1), (1102, .iadd, 1), (1103, .iaload, 1), (1104, .aload_n 0, 1), (1105, .iload 4, 2), (1107, .iconst 2, 1), (1108, .iadd, 1), (1109, .iaload, 1), (1110, .aload_n 0, 1), (1111, .iload 4, 2), (1113, .iconst 3, 1), (1114, .iadd, 1), (1115, .iaload, 1)]
theorem dL_law_20 : ∀ q ∈ tL_law_20, decode cL_law q.1 = .ok q.2 := by decide +kernel
def tL_law_21 : List (Nat × Instr × Nat) := [(1116, .invokevirtual 139, 3), (1119, .aload_n 2, 1), (1120, .aload_n 0, 1), (1121, .iload 4, 2), (1123, .iconst 1, 1), (1124, .iadd, 1), (1125, .iaload, 1), (1126, .aload_n 0, 1), (1127, .iload 4, 2), (1129, .iconst 2, 1), (1130, .iadd, 1), (1131, .iaload, 1), (1132, .aload_n 0, 1), (1133, .iload 4, 2), (1135, .iconst 3, 1), (1136, .iadd, 1), (1137, .iaload, 1), (1138, .invokevirtual 142, 3), (1141, .if_icmp .eq 405, 3), (1144, .iconst 0, 1), (1145, .ireturn, 1), (1146, .aload_n 1, 1), (1147, .invokevirtual 143, 3), (1150, .aload_n 2, 1), (1151, .invokevirtual 146, 3), (1154, .if_icmp .eq 392, 3), (1157, .iconst 0, 1), (1158, .ireturn, 1), (1159, .aload_n 1, 1), (1160, .invokevirtual 147, 3), (1163, .aload_n 2, 1), (1164, .invokevirtual 150, 3)]
theorem dL_law_21 : ∀ q ∈ tL_law_21, decode cL_law q.1 = .ok q.2 := by decide +kernel
def tL_law_22 : List (Nat × Instr × Nat) := [(1167, .if_icmp .eq 379, 3), (1170, .iconst 0, 1), (1171, .ireturn, 1), (1172, .aload_n 1, 1), (1173, .aload_n 0, 1), (1174, .iload 4, 2), (1176, .iconst 1, 1), (1177, .iadd, 1), (1178, .iaload, 1), (1179, .invokevirtual 151, 3), (1182, .aload_n 2, 1), (1183, .aload_n 0, 1), (1184, .iload 4, 2), (1186, .iconst 1, 1), (1187, .iadd, 1), (1188, .iaload, 1), (1189, .invokevirtual 154, 3), (1192, .if_icmp .eq 354, 3), (1195, .iconst 0, 1), (1196, .ireturn, 1), (1197, .aload_n 1, 1), (1198, .aload_n 0, 1), (1199, .iload 4, 2), (1201, .iconst 1, 1), (1202, .iadd, 1), (1203, .iaload, 1), (1204, .aload_n 0, 1), (1205, .iload 4, 2), (1207, .iconst 2, 1), (1208, .iadd, 1), (1209, .iaload, 1), (1210, .aload_n 0, 1)]
theorem dL_law_22 : ∀ q ∈ tL_law_22, decode cL_law q.1 = .ok q.2 := by decide +kernel
def tL_law_23 : List (Nat × Instr × Nat) := [(1211, .iload 4, 2), (1213, .iconst 3, 1), (1214, .iadd, 1), (1215, .iaload, 1), (1216, .aload_n 0, 1), (1217, .iload 4, 2), (1219, .iconst 4, 1), (1220, .iadd, 1), (1221, .iaload, 1), (1222, .invokevirtual 155, 3), (1225, .aload_n 2, 1), (1226, .aload_n 0, 1), (1227, .iload 4, 2), (1229, .iconst 1, 1), (1230, .iadd, 1), (1231, .iaload, 1), (1232, .aload_n 0, 1), (1233, .iload 4, 2), (1235, .iconst 2, 1), (1236, .iadd, 1), (1237, .iaload, 1), (1238, .aload_n 0, 1), (1239, .iload 4, 2), (1241, .iconst 3, 1), (1242, .iadd, 1), (1243, .iaload, 1), (1244, .aload_n 0, 1), (1245, .iload 4, 2), (1247, .iconst 4, 1), (1248, .iadd, 1), (1249, .iaload, 1), (1250, .invokevirtual 159, 3)]
theorem dL_law_23 : ∀ q ∈ tL_law_23, decode cL_law q.1 = .ok q.2 := by decide +kernel
def tL_law_24 : List (Nat × Instr × Nat) := [(1253, .if_icmp .eq 293, 3), (1256, .iconst 0, 1), (1257, .ireturn, 1), (1258, .aload_n 1, 1), (1259, .aload_n 0, 1), (1260, .iload 4, 2), (1262, .iconst 1, 1), (1263, .iadd, 1), (1264, .iaload, 1), (1265, .aload_n 0, 1), (1266, .iload 4, 2), (1268, .iconst 2, 1), (1269, .iadd, 1), (1270, .iaload, 1), (1271, .aload_n 0, 1), (1272, .iload 4, 2), (1274, .iconst 3, 1), (1275, .iadd, 1), (1276, .iaload, 1), (1277, .invokevirtual 160, 3), (1280, .aload_n 2, 1), (1281, .aload_n 0, 1), (1282, .iload 4, 2), (1284, .iconst 1, 1), (1285, .iadd, 1), (1286, .iaload, 1), (1287, .aload_n 0, 1), (1288, .iload 4, 2), (1290, .iconst 2, 1), (1291, .iadd, 1), (1292, .iaload, 1), (1293, .aload_n 0, 1)]
theorem dL_law_24 : ∀ q ∈ tL_law_24, decode cL_law q.1 = .ok q.2 := by decide +kernel
def tL_law_25 : List (Nat × Instr × Nat) := [(1294, .iload 4, 2), (1296, .iconst 3, 1), (1297, .iadd, 1), (1298, .iaload, 1), (1299, .invokevirtual 163, 3), (1302, .if_icmp .eq 244, 3), (1305, .iconst 0, 1), (1306, .ireturn, 1), (1307, .aload_n 1, 1), (1308, .aload_n 0, 1), (1309, .iload 4, 2), (1311, .iconst 1, 1), (1312, .iadd, 1), (1313, .iaload, 1), (1314, .aload_n 0, 1), (1315, .iload 4, 2), (1317, .iconst 2, 1), (1318, .iadd, 1), (1319, .iaload, 1), (1320, .aload_n 0, 1), (1321, .iload 4, 2), (1323, .iconst 3, 1), (1324, .iadd, 1), (1325, .iaload, 1), (1326, .invokevirtual 164, 3), (1329, .aload_n 2, 1), (1330, .aload_n 0, 1), (1331, .iload 4, 2), (1333, .iconst 1, 1), (1334, .iadd, 1), (1335, .iaload, 1), (1336, .aload_n 0, 1)]
theorem dL_law_25 : ∀ q ∈ tL_law_25, decode cL_law q.1 = .ok q.2 := by decide +kernel
def tL_law_26 : List (Nat × Instr × Nat) := [(1337, .iload 4, 2), (1339, .iconst 2, 1), (1340, .iadd, 1), (1341, .iaload, 1), (1342, .aload_n 0, 1), (1343, .iload 4, 2), (1345, .iconst 3, 1), (1346, .iadd, 1), (1347, .iaload, 1), (1348, .invokevirtual 167, 3), (1351, .if_icmp .eq 195, 3), (1354, .iconst 0, 1), (1355, .ireturn, 1), (1356, .aload_n 1, 1), (1357, .aload_n 0, 1), (1358, .iload 4, 2), (1360, .iconst 1, 1), (1361, .iadd, 1), (1362, .iaload, 1), (1363, .aload_n 0, 1), (1364, .iload 4, 2), (1366, .iconst 2, 1), (1367, .iadd, 1), (1368, .iaload, 1), (1369, .aload_n 3, 1), (1370, .invokestatic 168, 3), (1373, .istore 5, 2), (1375, .aload_n 2, 1), (1376, .aload_n 0, 1), (1377, .iload 4, 2), (1379, .iconst 1, 1), (1380, .iadd, 1)]
theorem dL_law_26 : ∀ q ∈ tL_law_26, decode cL_law q.1 = .ok q.2 := by decide +kernel
def tL_law_27 : List (Nat × Instr × Nat) := [(1381, .iaload, 1), (1382, .aload_n 0, 1), (1383, .iload 4, 2), (1385, .iconst 2, 1), (1386, .iadd, 1), (1387, .iaload, 1), (1388, .invokevirtual 173, 3), (1391, .lstore 6, 2), (1393, .aload_n 2, 1), (1394, .invokevirtual 174, 3), (1397, .iload 5, 2), (1399, .if_icmp .eq 5, 3), (1402, .iconst 0, 1), (1403, .ireturn, 1), (1404, .iload 5, 2), (1406, .ifCond .ne 14, 3), (1409, .aload_n 3, 1), (1410, .iconst 0, 1), (1411, .laload, 1), (1412, .lload 6, 2), (1414, .lcmp, 1), (1415, .ifCond .eq 5, 3), (1418, .iconst 0, 1), (1419, .ireturn, 1), (1420, .goto 126, 3), (1423, .aload_n 1, 1), (1424, .aload_n 0, 1), (1425, .iload 4, 2), (1427, .iconst 1, 1), (1428, .iadd, 1), (1429, .iaload, 1), (1430, .aload_n 0, 1)]
theorem dL_law_27 : ∀ q ∈ tL_law_27, decode cL_law q.1 = .ok q.2 := by decide +kernel
def tL_law_28 : List (Nat × Instr × Nat) := [(1431, .iload 4, 2), (1433, .iconst 2, 1), (1434, .iadd, 1), (1435, .iaload, 1), (1436, .aload_n 0, 1), (1437, .iload 4, 2), (1439, .iconst 3, 1), (1440, .iadd, 1), (1441, .iaload, 1), (1442, .aload_n 0, 1), (1443, .iload 4, 2), (1445, .iconst 4, 1), (1446, .iadd, 1), (1447, .iaload, 1), (1448, .aload_n 0, 1), (1449, .iload 4, 2), (1451, .iconst 5, 1), (1452, .iadd, 1), (1453, .iaload, 1), (1454, .invokevirtual 177, 3), (1457, .aload_n 2, 1), (1458, .aload_n 0, 1), (1459, .iload 4, 2), (1461, .iconst 1, 1), (1462, .iadd, 1), (1463, .iaload, 1), (1464, .aload_n 0, 1), (1465, .iload 4, 2), (1467, .iconst 2, 1), (1468, .iadd, 1), (1469, .iaload, 1), (1470, .aload_n 0, 1)]
theorem dL_law_28 : ∀ q ∈ tL_law_28, decode cL_law q.1 = .ok q.2 := by decide +kernel
def tL_law_29 : List (Nat × Instr × Nat) := [(1471, .iload 4, 2), (1473, .iconst 3, 1), (1474, .iadd, 1), (1475, .iaload, 1), (1476, .aload_n 0, 1), (1477, .iload 4, 2), (1479, .iconst 4, 1), (1480, .iadd, 1), (1481, .iaload, 1), (1482, .aload_n 0, 1), (1483, .iload 4, 2), (1485, .iconst 5, 1), (1486, .iadd, 1), (1487, .iaload, 1), (1488, .invokevirtual 181, 3), (1491, .if_icmp .eq 55, 3), (1494, .iconst 0, 1), (1495, .ireturn, 1), (1496, .aload_n 1, 1), (1497, .aload_n 0, 1), (1498, .iload 4, 2), (1500, .iconst 1, 1), (1501, .iadd, 1), (1502, .iaload, 1), (1503, .invokevirtual 182, 3), (1506, .aload_n 2, 1), (1507, .aload_n 0, 1), (1508, .iload 4, 2), (1510, .iconst 1, 1), (1511, .iadd, 1), (1512, .iaload, 1), (1513, .invokevirtual 185, 3)]
theorem dL_law_29 : ∀ q ∈ tL_law_29, decode cL_law q.1 = .ok q.2 := by decide +kernel
def tL_law_30 : List (Nat × Instr × Nat) := [(1516, .if_icmp .eq 30, 3), (1519, .iconst 0, 1), (1520, .ireturn, 1), (1521, .aload_n 1, 1), (1522, .aload_n 0, 1), (1523, .iload 4, 2), (1525, .iconst 1, 1), (1526, .iadd, 1), (1527, .iaload, 1), (1528, .invokevirtual 186, 3), (1531, .aload_n 2, 1), (1532, .aload_n 0, 1), (1533, .iload 4, 2), (1535, .iconst 1, 1), (1536, .iadd, 1), (1537, .iaload, 1), (1538, .invokevirtual 189, 3), (1541, .if_icmp .eq 5, 3), (1544, .iconst 0, 1), (1545, .ireturn, 1), (1546, .iinc 4 6, 3), (1549, .goto (-1526), 3), (1552, .iconst 1, 1), (1553, .ireturn, 1)]
theorem dL_law_30 : ∀ q ∈ tL_law_30, decode cL_law q.1 = .ok q.2 := by decide +kernel
end
section
/-! the state of all cells by their ids: int fields, int rows, long rows, and the model's row that is kept in; the programs over it; the world -/
abbrev St : Type := (Nat → Nat → Int32) × (Nat → Nat → Int32) × (Nat → Nat → Int64) × Nat
def fu {α : Type} (f : Nat → α) (a : Nat) (v : α) : Nat → α := fun b => if b = a then v else f b
def gI (σ : St) (o k : Nat) : Int32 := σ.1 o k
def gA (σ : St) (a i : Nat) : Int32 := σ.2.1 a i
def gL (σ : St) (a i : Nat) : Int64 := σ.2.2.1 a i
def pI (σ : St) (o k : Nat) (v : Int32) : St := (fu σ.1 o (upd (σ.1 o) k v), σ.2)
def pA (σ : St) (a i : Nat) (v : Int32) : St := (σ.1, fu σ.2.1 a (upd (σ.2.1 a) i v), σ.2.2)
def pL (σ : St) (a i : Nat) (v : Int64) : St := (σ.1, σ.2.1, fu σ.2.2.1 a (vp_updL (σ.2.2.1 a) i v), σ.2.2.2)
def pK (σ : St) (n : Nat) : St := (σ.1, σ.2.1, σ.2.2.1, n)
def sL (σ : St) (a : Nat) (f : Nat → Int64) : St := (σ.1, σ.2.1, fu σ.2.2.1 a f, σ.2.2.2)
/-! what the programs are made of -/
def kl {α : Type} {β : Type} (a : α) (f : α → β) : β := f a
def cl2 {α ρ : Type} (x : Option (α × St)) (f : α → St → Option ρ) : Option ρ := x.bind (fun q => f q.1 q.2)
def cl1 {ρ : Type} (x : Option St) (f : St → Option ρ) : Option ρ := x.bind f
def ldA {ρ : Type} (σ : St) (a n : Nat) (i : Int32) (f : Int32 → Option ρ) : Option ρ := if i < 0 ∨ n ≤ i.toNatClampNeg then none else f (gA σ a i.toNatClampNeg)
def ldL {ρ : Type} (σ : St) (a n : Nat) (i : Int32) (f : Int64 → Option ρ) : Option ρ := if i < 0 ∨ n ≤ i.toNatClampNeg then none else f (gL σ a i.toNatClampNeg)
def ldR {ρ : Type} (i : Int32) (f : Nat → Option ρ) : Option ρ := if i < 0 ∨ 8 ≤ i.toNatClampNeg then none else f (10 + i.toNatClampNeg)
def stA {ρ : Type} (σ : St) (a n : Nat) (i v : Int32) (f : St → Option ρ) : Option ρ := if i < 0 ∨ n ≤ i.toNatClampNeg then none else f (pA σ a i.toNatClampNeg v)
def stL {ρ : Type} (σ : St) (a n : Nat) (i : Int32) (v : Int64) (f : St → Option ρ) : Option ρ := if i < 0 ∨ n ≤ i.toNatClampNeg then none else f (pL σ a i.toNatClampNeg v)
def stZ {ρ : Type} (σ : St) (o k : Nat) (v : Int32) (f : St → Option ρ) : Option ρ := if v = 0 ∨ v = 1 then f (pI σ o k v) else none
def gK {ρ : Type} (σ : St) (f : Nat → Option ρ) : Option ρ := if σ.2.2.2 = 57 ∨ σ.2.2.2 = 58 then f σ.2.2.2 else none
def cpL {ρ : Type} (σ : St) (a n : Nat) (sp : Int32) (b m : Nat) (dp k : Int32) (f : St → Option ρ) : Option ρ := if sp < 0 ∨ dp < 0 ∨ k < 0 ∨ n < sp.toNatClampNeg + k.toNatClampNeg ∨ m < dp.toNatClampNeg + k.toNatClampNeg then none else f (sL σ b (va_cpy (σ.2.2.1 a) (σ.2.2.1 b) sp.toNatClampNeg dp.toNatClampNeg k.toNatClampNeg))
def dvI {ρ : Type} (y : Int32) (x : Option ρ) : Option ρ := if y = 0 then none else x
def dvL {ρ : Type} (y : Int64) (x : Option ρ) : Option ρ := if y = 0 then none else x
def rz (x : Int32) (σ : St) : Option (Int32 × St) := if x = 0 ∨ x = 1 then some (x, σ) else none
def lp {F : Type} (bot : F) (b : F → F) : Nat → F
  | 0 => bot
  | n + 1 => b (lp bot b n)
theorem lp_P {F : Type} {bot : F} {b : F → F} (P : F → Prop) (h0 : P bot) (h : ∀ J, P J → P (b J)) : ∀ n, P (lp bot b n)
  | 0 => h0
  | n + 1 => h _ (lp_P P h0 h n)
def kdl : List Nat := [5, 1, 1, 1, 10, 10, 10, 10, 10, 10, 3, 3, 3, 3, 3, 3, 3, 3, 3, 11, 11, 11, 11, 11, 11, 11, 11, 11, 0, 10, 10, 11, 11, 11, 11, 10, 11, 11, 4, 11, 11, 11, 2, 10, 12, 6, 10, 10, 10, 10, 10, 10, 10, 11, 10, 10, 10, 10, 10, 10, 10, 10, 11, 11, 10, 11, 11]
def lnl : List Nat := [0, 0, 0, 0, 36, 36, 36, 36, 36, 36, 0, 0, 0, 0, 0, 0, 0, 0, 0, 100, 100, 100, 100, 100, 100, 100, 100, 100, 0, 36, 1296, 36, 36, 36, 36, 1296, 1296, 1296, 0, 100, 36, 36, 0, 25, 8, 0, 36, 36, 8, 8, 8, 8, 8, 800, 51, 51, 153, 80, 80, 36, 1296, 1296, 1296, 1296, 8, 100, 1]
def kd (o : Nat) : Nat := kdl.getD o 99
def ln (o : Nat) : Nat := lnl.getD o 0
abbrev G : Type := va_G × (ClassId × ClassId × ClassId) × (Nat → Nat)
def fl (ad : Nat → Nat) (σ : St) (o : Nat) (c : Nat) : List Value := match c with
  | 0 => [.ref (ad 29), .ref (ad 30), .ref (ad 31), .ref (ad 32), .ref (ad 33), .ref (ad 34), .ref (ad 35), .ref (ad 36), .ref (ad 37)]
  | 1 => [.ref (ad (o + 3)), .ref (ad (o + 6)), .int (gI σ o 2), .int (gI σ o 3), .int (gI σ o 4), .int (gI σ o 5), .int (gI σ o 6), .int (gI σ o 7), .int (gI σ o 8), .int (gI σ o 9)]
  | 2 => [.ref (ad 43)]
  | 3 => [.int (gI σ o 0), .int (gI σ o 1), .int (gI σ o 2), .int (gI σ o 3), .int (gI σ o 4), .ref (ad (o + 9))]
  | 4 => [.ref (ad 39), .ref (ad 40), .ref (ad 41)]
  | 5 => [.ref (ad 1), .ref (ad 2), .ref (ad 3), .int (gI σ o 3), .ref (ad 28), .ref (ad 38), .ref (ad 42), .ref (ad 44), .ref (ad 18)]
  | _ => [.ref (ad 46), .ref (ad 47), .int (gI σ o 2), .int (gI σ o 3), .int (gI σ o 4), .int (gI σ o 5), .int (gI σ o 6), .int (gI σ o 7), .int (gI σ o 8), .int (gI σ o 9), .ref (ad 48), .ref (ad 49), .ref (ad 50), .ref (ad 51), .ref (ad 52), .ref (ad 53), .int (gI σ o 16), .int (gI σ o 17), .int (gI σ o 18), .int (gI σ o 19), .int (gI σ o 20), .int (gI σ o 21), .ref (ad 54), .ref (ad 55), .ref (ad 56), .ref (ad 57), .ref (ad 58), .int (gI σ o 27), .int (gI σ o 28), .int (gI σ o 29), (if σ.2.2.2 = 0 then .null else .ref (ad σ.2.2.2)), .ref (ad 59), .ref (ad 60), .ref (ad 61), .ref (ad 62), .ref (ad 63), .ref (ad 64), .int (gI σ o 37), .ref (ad 65)]
def en (g : G) (σ : St) (o : Nat) : va_E := if kd o = 10 then .inl (g.2.1.1, ln o, .inl (σ.2.1 o)) else if kd o = 11 then .inl (g.2.1.2.1, ln o, .inr (.inl (σ.2.2.1 o))) else if kd o = 12 then .inl (g.2.1.2.2, 8, .inr (.inr (.inr (.inr (fun i => some (g.2.2 (10 + i))))))) else .inr (kd o, fl g.2.2 σ o (kd o))
def wd (g : G) (σ : St) : va_W := (List.range 67).map (fun o => (g.2.2 o, en g σ o))
def tys (g : G) : List (ClassId × FieldType) := [(g.2.1.1, .int), (g.2.1.2.1, .long), (g.2.1.2.2, .object RX5)]
def nws : List (String × Nat × MethodName × String) := [(RX8, 68, yX10_isCell, RX10), (RX3, 43, yX10_isCell, RX10), (RX8, 83, yX10_isDistance, RX10), (RX8, 92, yX10_isEither, RX10), (RX7, 25, yX10_isCell, RX10), (RX0, 80, yX10_isCell, RX10), (RX9, 31, yX10_isCell, RX10), (RX4, 31, yX10_isWay, RX10)]
def wU (g : G) (U : State) : Prop := va_K g.1 vwCl (tys g) U ∧ ∀ q ∈ nws, va_Nw (.methodLinkNest q.1 q.2.1 q.2.2.1 q.2.2.2) U
def gOK (g : G) : Prop := ∀ i j, i < 67 → j < 67 → g.2.2 i = g.2.2 j → i = j
def aA (g : G) (sz : Nat) : Nat → Prop := fun q => (∃ o, o < 67 ∧ q = g.2.2 o) ∨ sz ≤ q
def kP (g : G) (av : List Value) (σ : St) (sz : Nat) : Array Value → State → Prop := va_Pc av (fun U => U.heap.size = sz ∧ va_P g.1 vwCl (wd g σ) U.heap ∧ wU g U)
def kQ (g : G) (o : Option Value) (σ : St) (A : Nat → Prop) : Array Value → State → Outcome → State → Prop := fun _ st oc t => (oc = .returned o ∧ va_P g.1 vwCl (wd g σ) t.heap) ∧ va_F A st t
/-- a method's contract: on these arguments and this state it answers o, and leaves the state σ'; no cell is made -/
def Mc (l : Launch) (g : G) (y : MethodName) (cc : ByteArray) (nL : Nat) (rt : Option FieldType) (rm : Room) (As : List Value) (σ : St) (o : Option Value) (σ' : St) : Prop := ∀ sz, Met l y (Cond.code y cc nL rt :: WS) rm (kP g As σ sz) (kQ g o σ' (aA g sz)) 0 0 (aA g sz)
/-- the walk of a method's body: WK pc locals stack state -/
def kX (g : G) (l : Launch) (R : Room) (own : String) (cc : ByteArray) (nL : Nat) (rt : Option FieldType) (o : Option Value) (σe : St) (WK : Nat → List (Nat × Value) → List Value → St → Prop) : Prop :=
  ∃ (p : Program) (e : Env) (s : State) (m : MethodId) (args : Array Value) (below : List Frame) (meth : Method) (c : Code),
    CallFix p m c cc nL s args WS own ∧ meth.sig.returnType = rt ∧ meth.locks = false ∧ wU g s ∧ gOK g ∧
    WK = fun pc lv st σ => ∀ (ls : Array Slot) (H : Heap) (locs : List Loc), lv_has ls nL lv → va_P g.1 vwCl (wd g σ) H → va_S (aA g s.heap.size) s.heap H locs → W p l e R s m args below meth c H locs 0 0 (MQ below (kQ g o σe (aA g s.heap.size)) args s 0 0 (aA g s.heap.size)) (F0 m pc ls st)
/-! ===== the world's rows ===== -/
theorem kd_lt {o c : Nat} (h : kd o = c) (hc : c < 99) : o < 67 := by
  rcases Nat.lt_or_ge o 67 with q | q
  · exact q
  · have : kd o = 99 := by
      unfold kd
      rw [List.getD_eq_getElem?_getD, List.getElem?_eq_none (show kdl.length ≤ o from q)]
      rfl
    omega
theorem wd_get {g : G} {σ : St} {o : Nat} (h : o < 67) : (wd g σ)[o]? = some (g.2.2 o, en g σ o) := by
  simp [wd, h]
theorem wd_set {g : G} {σ σ' : St} {o : Nat} {e : va_E} (h : o < 67) (he : en g σ' o = e) (hj : ∀ j, j ≠ o → en g σ' j = en g σ j) : (wd g σ).set o (g.2.2 o, e) = wd g σ' := by
  apply List.ext_getElem?
  intro j
  by_cases hjo : j = o
  · subst hjo
    rw [wd_get h, List.getElem?_set_self (by simp [wd]; exact h), he]
  · rw [List.getElem?_set_ne (fun q => hjo q.symm)]
    rcases Nat.lt_or_ge j 67 with q | q
    · rw [wd_get q, wd_get q, hj j hjo]
    · rw [List.getElem?_eq_none (by simp [wd]; exact q), List.getElem?_eq_none (by simp [wd]; exact q)]
theorem en_o {g : G} {σ : St} {o c : Nat} (h : kd o = c) (hc : c < 10) : en g σ o = .inr (c, fl g.2.2 σ o c) := by
  subst h
  unfold en
  rw [if_neg (by omega), if_neg (by omega), if_neg (by omega)]
theorem en_i {g : G} {σ : St} {o : Nat} (h : kd o = 10) : en g σ o = .inl (g.2.1.1, ln o, .inl (σ.2.1 o)) := by
  unfold en
  rw [if_pos h]
theorem en_l {g : G} {σ : St} {o : Nat} (h : kd o = 11) : en g σ o = .inl (g.2.1.2.1, ln o, .inr (.inl (σ.2.2.1 o))) := by
  unfold en
  rw [if_neg (by omega), if_pos h]
theorem en_r {g : G} {σ : St} {o : Nat} (h : kd o = 12) : en g σ o = .inl (g.2.1.2.2, 8, .inr (.inr (.inr (.inr (fun i => some (g.2.2 (10 + i))))))) := by
  unfold en
  rw [if_neg (by omega), if_neg (by omega), if_pos h]
theorem fu_s {α : Type} {f : Nat → α} {a : Nat} {v : α} : fu f a v a = v := by simp [fu]
theorem fu_n {α : Type} {f : Nat → α} {a b : Nat} {v : α} (h : b ≠ a) : fu f a v b = f b := by simp [fu, h]
theorem gI_pI_s {σ : St} {o k : Nat} {v : Int32} : gI (pI σ o k v) o k = v := by simp [gI, pI, fu, upd]
theorem gI_pI_k {σ : St} {o k j : Nat} {v : Int32} (h : j ≠ k) : gI (pI σ o k v) o j = gI σ o j := by simp [gI, pI, fu, upd, h]
theorem gI_pI_o {σ : St} {o q k j : Nat} {v : Int32} (h : q ≠ o) : gI (pI σ o k v) q j = gI σ q j := by simp [gI, pI, fu, h]
theorem fl_o {ad : Nat → Nat} {σ : St} {o q k c : Nat} {v : Int32} (h : q ≠ o) : fl ad (pI σ o k v) q c = fl ad σ q c := by
  unfold fl
  split <;> simp only [gI_pI_o h] <;> rfl
theorem en_pI_n {g : G} {σ : St} {o k j : Nat} {v : Int32} (h : j ≠ o) : en g (pI σ o k v) j = en g σ j := by
  unfold en
  rw [fl_o h]
  rfl
theorem fl_A {ad : Nat → Nat} {σ : St} {a i q c : Nat} {v : Int32} : fl ad (pA σ a i v) q c = fl ad σ q c := rfl
theorem fl_L {ad : Nat → Nat} {σ : St} {a i q c : Nat} {v : Int64} : fl ad (pL σ a i v) q c = fl ad σ q c := rfl
theorem fl_sL {ad : Nat → Nat} {σ : St} {a q c : Nat} {f : Nat → Int64} : fl ad (sL σ a f) q c = fl ad σ q c := rfl
theorem en_pA_n {g : G} {σ : St} {a i j : Nat} {v : Int32} (h : j ≠ a) : en g (pA σ a i v) j = en g σ j := by
  unfold en
  rw [fl_A]
  show (if kd j = 10 then (.inl (g.2.1.1, ln j, .inl (fu σ.2.1 a (upd (σ.2.1 a) i v) j)) : va_E) else _) = _
  rw [fu_n h]
  rfl
theorem en_pL_n {g : G} {σ : St} {a i j : Nat} {v : Int64} (h : j ≠ a) : en g (pL σ a i v) j = en g σ j := by
  unfold en
  rw [fl_L]
  show (if kd j = 10 then (.inl (g.2.1.1, ln j, .inl (σ.2.1 j)) : va_E) else if kd j = 11 then .inl (g.2.1.2.1, ln j, .inr (.inl (fu σ.2.2.1 a (vp_updL (σ.2.2.1 a) i v) j))) else _) = _
  rw [fu_n h]
theorem en_sL_n {g : G} {σ : St} {a j : Nat} {f : Nat → Int64} (h : j ≠ a) : en g (sL σ a f) j = en g σ j := by
  unfold en
  rw [fl_sL]
  show (if kd j = 10 then (.inl (g.2.1.1, ln j, .inl (σ.2.1 j)) : va_E) else if kd j = 11 then .inl (g.2.1.2.1, ln j, .inr (.inl (fu σ.2.2.1 a f j))) else _) = _
  rw [fu_n h]
theorem fl_K {ad : Nat → Nat} {σ : St} {n q c : Nat} (h : c < 6) : fl ad (pK σ n) q c = fl ad σ q c := by
  match c, h with
  | 0, _ => rfl
  | 1, _ => rfl
  | 2, _ => rfl
  | 3, _ => rfl
  | 4, _ => rfl
  | 5, _ => rfl
theorem kd6 : ∀ j, j < 67 → kd j = 6 → j = 45 := by decide +kernel
theorem kdq : ∀ j, j < 67 → (kd j = 10 ∨ kd j = 11 ∨ kd j = 12 ∨ kd j ≤ 6) := by decide +kernel
theorem en_pK_n {g : G} {σ : St} {n j : Nat} (hj : j < 67) (h : j ≠ 45) : en g (pK σ n) j = en g σ j := by
  unfold en
  have h6 : kd j ≠ 6 := fun q => h (kd6 j hj q)
  by_cases h1 : kd j = 10
  · rw [if_pos h1, if_pos h1]; rfl
  · by_cases h2 : kd j = 11
    · rw [if_neg h1, if_neg h1, if_pos h2, if_pos h2]; rfl
    · by_cases h3 : kd j = 12
      · rw [if_neg h1, if_neg h1, if_neg h2, if_neg h2, if_pos h3, if_pos h3]
      · rw [if_neg h1, if_neg h1, if_neg h2, if_neg h2, if_neg h3, if_neg h3]
        by_cases h7 : kd j < 6
        · rw [fl_K h7]
        · exact absurd (kdq j hj) (by omega)
theorem wd_D {g : G} (hg : gOK g) {σ : St} {sz : Nat} : va_D (aA g sz) (wd g σ) := by
  refine ⟨fun i j p q hp hq e => ?_, fun k q hk => ?_⟩
  · have hi : i < 67 := by
      have := (List.getElem?_eq_some_iff.mp hp).1
      simpa [wd] using this
    have hj : j < 67 := by
      have := (List.getElem?_eq_some_iff.mp hq).1
      simpa [wd] using this
    rw [wd_get hi] at hp
    rw [wd_get hj] at hq
    cases hp
    cases hq
    exact hg i j hi hj e
  · have hi : k < 67 := by
      have := (List.getElem?_eq_some_iff.mp hk).1
      simpa [wd] using this
    rw [wd_get hi] at hk
    cases hk
    exact Or.inl ⟨k, hi, rfl⟩
theorem wU_warm {g : G} {s U : State} (h : wU g s) (hW : s.WarmedH U.vm) : wU g U := ⟨va_K.moved hW.alike h.1, fun q hq => va_Nw.warmM hW (h.2 q hq)⟩
theorem kP_blind {g : G} {av : List Value} {σ : St} {sz : Nat} : FrameBlind (kP g av σ sz) := by
  intro a U gg mk h
  obtain ⟨h0, h1, h2, h3, h4⟩ := h
  exact ⟨h0, h1, h2, va_K.moved (u := U) (U := U.calling gg mk a) (Vm.Alike.refl U.vm) h3, fun q hq => va_Nw.same (u := U) (U := U.calling gg mk a) rfl rfl (h4 q hq)⟩


theorem dk {cc : ByteArray} {t : List (Nat × Instr × Nat)} (h : ∀ q ∈ t, decode cc q.1 = .ok q.2) (n : Nat) {pc : Nat} {i : Instr} {len : Nat} (e : t[n]? = some (pc, i, len)) : decode cc pc = .ok (i, len) := by
  have h1 := h (pc, i, len) (List.mem_of_getElem? e)
  exact h1
theorem kl_J {F ρ : Type} {a : F} {f : F → Option ρ} {r : ρ} {P : F → Prop} {Z : Prop} (h : kl a f = some r) (hP : P a) (k : ∀ J, P J → f J = some r → Z) : Z := k a hP h
theorem kl_L {F ρ : Type} {bot : F} {b : F → F} {n : Nat} {f : F → Option ρ} {r : ρ} {P : F → Prop} {Z : Prop} (h : kl (lp bot b n) f = some r) (h0 : P bot) (hb : ∀ J, P J → P (b J)) (k : ∀ J, P J → f J = some r → Z) : Z := k _ (lp_P P h0 hb n) h
theorem nmL {ρ : Type} {x : Int64} {f : Int64 → Option ρ} {r : ρ} {WK : Nat → List (Nat × Value) → List Value → St → Prop} {pc : Nat} {lv : List (Nat × Value)} {st : List Value} {σ : St} (h : kl x f = some r) (k : ∀ y, f y = some r → WK pc lv (.long y :: st) σ) : WK pc lv (.long x :: st) σ := k x h
theorem cl2_k {α ρ : Type} {x : Option (α × St)} {f : α → St → Option ρ} {r : ρ} {Z : Prop} (h : cl2 x f = some r) (k : ∀ v σ, x = some (v, σ) → f v σ = some r → Z) : Z := by
  match x, h with
  | some (v, σ), h => exact k v σ rfl h
theorem cl1_k {ρ : Type} {x : Option St} {f : St → Option ρ} {r : ρ} {Z : Prop} (h : cl1 x f = some r) (k : ∀ σ, x = some σ → f σ = some r → Z) : Z := by
  match x, h with
  | some σ, h => exact k σ rfl h
theorem nmI {ρ : Type} {x : Int32} {f : Int32 → Option ρ} {r : ρ} {WK : Nat → List (Nat × Value) → List Value → St → Prop} {pc : Nat} {lv : List (Nat × Value)} {st : List Value} {σ : St} (h : kl x f = some r) (k : ∀ y, f y = some r → WK pc lv (.int y :: st) σ) : WK pc lv (.int x :: st) σ := k x h
theorem kd_L3 {o : Nat} (h : kd o = 1) : kd (o + 3) = 10 := (show ∀ o, o < 67 → kd o = 1 → kd (o + 3) = 10 by decide +kernel) o (kd_lt h (by omega)) h
theorem kd_L6 {o : Nat} (h : kd o = 1) : kd (o + 6) = 10 := (show ∀ o, o < 67 → kd o = 1 → kd (o + 6) = 10 by decide +kernel) o (kd_lt h (by omega)) h
theorem ln_L3 {o : Nat} (h : kd o = 1) : ln (o + 3) = 36 := (show ∀ o, o < 67 → kd o = 1 → ln (o + 3) = 36 by decide +kernel) o (kd_lt h (by omega)) h
theorem ln_L6 {o : Nat} (h : kd o = 1) : ln (o + 6) = 36 := (show ∀ o, o < 67 → kd o = 1 → ln (o + 6) = 36 by decide +kernel) o (kd_lt h (by omega)) h
theorem kd_S9 {o : Nat} (h : kd o = 3) : kd (o + 9) = 11 := (show ∀ o, o < 67 → kd o = 3 → kd (o + 9) = 11 by decide +kernel) o (kd_lt h (by omega)) h
theorem ln_S9 {o : Nat} (h : kd o = 3) : ln (o + 9) = 100 := (show ∀ o, o < 67 → kd o = 3 → ln (o + 9) = 100 by decide +kernel) o (kd_lt h (by omega)) h
theorem kd_K {n : Nat} (h : n = 57 ∨ n = 58) : kd n = 10 := by rcases h with rfl | rfl <;> rfl
theorem ln_K {n : Nat} (h : n = 57 ∨ n = 58) : ln n = 80 := by rcases h with rfl | rfl <;> rfl
theorem ne_K {n : Nat} (h : n = 57 ∨ n = 58) : n ≠ 0 := by omega
theorem WS_ok : GoodIn WS WS := fun w h => ⟨h, good_of_word (List.all_eq_true.mp WS_good w h)⟩
theorem WS_c {w : Cond} (h : w ∈ WS) : GoodIn WS (w :: WS) := fun x hx => (List.mem_cons.mp hx).elim (fun e => by rw [e]; exact WS_ok w h) (WS_ok x)
theorem gV {own : String} {idx : Nat} {D : String} {y : MethodName} {b : ByteArray} {n : Nat} {ret : Option FieldType} (h1 : Cond.methodLink own idx y ∈ WS) (h2 : Cond.instanceMethod y ∈ WS) (h3 : Cond.selects D y y ∈ WS) (h4 : Cond.initialized D ∈ WS) (h5 : Cond.code y b n ret ∈ WS) : GoodIn WS (wsV own idx D y (Cond.code y b n ret :: WS)) := by
  intro w hw
  rcases List.mem_append.mp hw with h | h
  · simp only [List.mem_cons, List.not_mem_nil, or_false] at h
    rcases h with rfl | rfl | rfl | rfl
    · exact WS_ok _ h1
    · exact WS_ok _ h2
    · exact WS_ok _ h3
    · exact WS_ok _ h4
  · exact WS_c h5 w h
theorem gS {own : String} {idx : Nat} {y : MethodName} {b : ByteArray} {n : Nat} {ret : Option FieldType} (h1 : Cond.methodLink own idx y ∈ WS) (h2 : Cond.static y ∈ WS) (h4 : Cond.initialized y.cls ∈ WS) (h5 : Cond.code y b n ret ∈ WS) : GoodIn WS (va_wsS own idx y (Cond.code y b n ret :: WS)) := by
  intro w hw
  rcases List.mem_append.mp hw with h | h
  · simp only [List.mem_cons, List.not_mem_nil, or_false] at h
    rcases h with rfl | rfl | rfl
    · exact WS_ok _ h1
    · exact WS_ok _ h2
    · exact WS_ok _ h4
  · exact WS_c h5 w h
theorem gN {y : MethodName} {b : ByteArray} {n : Nat} {ret : Option FieldType} (h5 : Cond.code y b n ret ∈ WS) : GoodIn WS (Cond.code y b n ret :: WS) := WS_c h5
set_option maxHeartbeats 1000000 in
theorem k_enter {l : Launch} {g : G} {y : MethodName} {cc : ByteArray} {nL : Nat} {rt : Option FieldType} {rm : Room} {own : String} {As : List Value} {σ : St} {o : Option Value} {σ' : St} (hg : gOK g) (hy : plainName y.cls = true) (hown : y.cls = own) (hlen : (lg_sl As).length ≤ nL)
    (body : ∀ WK, kX g l rm own cc nL rt o σ' WK → WK 0 (lv_args 0 As) [] σ) : Mc l g y cc nL rt rm As σ o σ' := by
  intro sz
  refine Met.ofW hy rfl ?_
  intro p e s m args below meth c s₁ B hml hv
  obtain ⟨rfl, hsz, hP, hU⟩ := hv
  subst hsz
  subst hown
  rw [lg_entry_eq]
  exact body _ ⟨p, e, s, m, _, below, meth, c, ⟨B.exec, B.bytes, hml, findClass_of_methodNamed B.named, fun w h => atoms_spec (ws := Cond.code y cc nL rt :: WS) B.pre w (List.mem_cons_of_mem _ h)⟩, B.returns, B.notSynchronized, hU, hg, rfl⟩ _ _ _ (lv_entry As hlen) hP va_S.rf
section KR
variable {g : G} {l : Launch} {R : Room} {own : String} {cc : ByteArray} {nL : Nat} {rt : Option FieldType} {o : Option Value} {σe : St} {WK : Nat → List (Nat × Value) → List Value → St → Prop} {pc : Nat} {lv lv' : List (Nat × Value)} {st : List Value} {σ : St} {ρ : Type}
theorem k_iconst (C : kX g l R own cc nL rt o σe WK) {n : Int} {v : Int32} (hd : decode cc pc = .ok (.iconst n, 1)) (hv : Int32.ofInt n = v) (k : WK (pc + 1) lv (.int v :: st) σ) : WK pc lv st σ := by
  obtain ⟨p, ev, s, m, args, below, meth, c, ⟨hx, hb, hml, hown, hts⟩, hr, hlk, hU, hg, rfl⟩ := C
  exact fun ls H locs hl hP hS => lv_iconst hx hb hd hv (k ls H locs hl hP hS)
theorem k_bipush (C : kX g l R own cc nL rt o σe WK) {n : Int} {v : Int32} (hd : decode cc pc = .ok (.bipush n, 2)) (hv : (Int8.ofInt n).toInt32 = v) (k : WK (pc + 2) lv (.int v :: st) σ) : WK pc lv st σ := by
  obtain ⟨p, ev, s, m, args, below, meth, c, ⟨hx, hb, hml, hown, hts⟩, hr, hlk, hU, hg, rfl⟩ := C
  exact fun ls H locs hl hP hS => lv_bipush hx hb hd hv (k ls H locs hl hP hS)
theorem k_sipush (C : kX g l R own cc nL rt o σe WK) {n : Int} {v : Int32} (hd : decode cc pc = .ok (.sipush n, 3)) (hv : (Int16.ofInt n).toInt32 = v) (k : WK (pc + 3) lv (.int v :: st) σ) : WK pc lv st σ := by
  obtain ⟨p, ev, s, m, args, below, meth, c, ⟨hx, hb, hml, hown, hts⟩, hr, hlk, hU, hg, rfl⟩ := C
  exact fun ls H locs hl hP hS => lv_sipush hx hb hd hv (k ls H locs hl hP hS)
theorem k_lconst (C : kX g l R own cc nL rt o σe WK) {n : Fin 2} {v : Int64} (hd : decode cc pc = .ok (.lconst n, 1)) (hv : Int64.ofNat n = v) (k : WK (pc + 1) lv (.long v :: st) σ) : WK pc lv st σ := by
  obtain ⟨p, ev, s, m, args, below, meth, c, ⟨hx, hb, hml, hown, hts⟩, hr, hlk, hU, hg, rfl⟩ := C
  exact fun ls H locs hl hP hS => lv_lconst hx hb hd hv (k ls H locs hl hP hS)
theorem k_ldc (C : kX g l R own cc nL rt o σe WK) {i : Nat} {v : Int32} (hd : decode cc pc = .ok (.ldc i, 2)) (hw : Cond.constant own i v ∈ WS) (k : WK (pc + 2) lv (.int v :: st) σ) : WK pc lv st σ := by
  obtain ⟨p, ev, s, m, args, below, meth, c, ⟨hx, hb, hml, hown, hts⟩, hr, hlk, hU, hg, rfl⟩ := C
  exact fun ls H locs hl hP hS => lv_ldc hx hb hown (hts _ hw) hd (k ls H locs hl hP hS)
theorem k_ldcw (C : kX g l R own cc nL rt o σe WK) {i : Nat} {v : Int32} (hd : decode cc pc = .ok (.ldc_w i, 3)) (hw : Cond.constant own i v ∈ WS) (k : WK (pc + 3) lv (.int v :: st) σ) : WK pc lv st σ := by
  obtain ⟨p, ev, s, m, args, below, meth, c, ⟨hx, hb, hml, hown, hts⟩, hr, hlk, hU, hg, rfl⟩ := C
  exact fun ls H locs hl hP hS => lv_ldcw hx hb hown (hts _ hw) hd (k ls H locs hl hP hS)
theorem k_ldc2 (C : kX g l R own cc nL rt o σe WK) {i : Nat} {v : Int64} (hd : decode cc pc = .ok (.ldc2_w i, 3)) (hw : Cond.constantLong own i v ∈ WS) (k : WK (pc + 3) lv (.long v :: st) σ) : WK pc lv st σ := by
  obtain ⟨p, ev, s, m, args, below, meth, c, ⟨hx, hb, hml, hown, hts⟩, hr, hlk, hU, hg, rfl⟩ := C
  exact fun ls H locs hl hP hS => lv_ldc2 hx hb hown (hts _ hw) hd (k ls H locs hl hP hS)
theorem k_iload_n (C : kX g l R own cc nL rt o σe WK) {q : Fin 4} {i : Nat} {x : Int32} (hd : decode cc pc = .ok (.iload_n q, 1)) (hi : (q : Nat) = i) (j : Nat) (hj : lv[j]? = some (i, .int x)) (k : WK (pc + 1) lv (.int x :: st) σ) : WK pc lv st σ := by
  obtain ⟨p, ev, s, m, args, below, meth, c, ⟨hx, hb, hml, hown, hts⟩, hr, hlk, hU, hg, rfl⟩ := C
  exact fun ls H locs hl hP hS => lv_iload_n hx hb hd hi (lv_at hl j hj) (k ls H locs hl hP hS)
theorem k_iload (C : kX g l R own cc nL rt o σe WK) {i : Nat} {x : Int32} (hd : decode cc pc = .ok (.iload i, 2)) (j : Nat) (hj : lv[j]? = some (i, .int x)) (k : WK (pc + 2) lv (.int x :: st) σ) : WK pc lv st σ := by
  obtain ⟨p, ev, s, m, args, below, meth, c, ⟨hx, hb, hml, hown, hts⟩, hr, hlk, hU, hg, rfl⟩ := C
  exact fun ls H locs hl hP hS => lv_iload hx hb hd (lv_at hl j hj) (k ls H locs hl hP hS)
theorem k_lload_n (C : kX g l R own cc nL rt o σe WK) {q : Fin 4} {i : Nat} {x : Int64} (hd : decode cc pc = .ok (.lload_n q, 1)) (hi : (q : Nat) = i) (j : Nat) (hj : lv[j]? = some (i, .long x)) (k : WK (pc + 1) lv (.long x :: st) σ) : WK pc lv st σ := by
  obtain ⟨p, ev, s, m, args, below, meth, c, ⟨hx, hb, hml, hown, hts⟩, hr, hlk, hU, hg, rfl⟩ := C
  exact fun ls H locs hl hP hS => lv_lload_n hx hb hd hi (lv_at hl j hj) (k ls H locs hl hP hS)
theorem k_lload (C : kX g l R own cc nL rt o σe WK) {i : Nat} {x : Int64} (hd : decode cc pc = .ok (.lload i, 2)) (j : Nat) (hj : lv[j]? = some (i, .long x)) (k : WK (pc + 2) lv (.long x :: st) σ) : WK pc lv st σ := by
  obtain ⟨p, ev, s, m, args, below, meth, c, ⟨hx, hb, hml, hown, hts⟩, hr, hlk, hU, hg, rfl⟩ := C
  exact fun ls H locs hl hP hS => lv_lload hx hb hd (lv_at hl j hj) (k ls H locs hl hP hS)
theorem k_aload_n (C : kX g l R own cc nL rt o σe WK) {q : Fin 4} {i : Nat} {x : Nat} (hd : decode cc pc = .ok (.aload_n q, 1)) (hi : (q : Nat) = i) (j : Nat) (hj : lv[j]? = some (i, .ref x)) (k : WK (pc + 1) lv (.ref x :: st) σ) : WK pc lv st σ := by
  obtain ⟨p, ev, s, m, args, below, meth, c, ⟨hx, hb, hml, hown, hts⟩, hr, hlk, hU, hg, rfl⟩ := C
  exact fun ls H locs hl hP hS => lv_aload_n hx hb hd hi (lv_at hl j hj) (k ls H locs hl hP hS)
theorem k_aload (C : kX g l R own cc nL rt o σe WK) {i : Nat} {x : Nat} (hd : decode cc pc = .ok (.aload i, 2)) (j : Nat) (hj : lv[j]? = some (i, .ref x)) (k : WK (pc + 2) lv (.ref x :: st) σ) : WK pc lv st σ := by
  obtain ⟨p, ev, s, m, args, below, meth, c, ⟨hx, hb, hml, hown, hts⟩, hr, hlk, hU, hg, rfl⟩ := C
  exact fun ls H locs hl hP hS => lv_aload hx hb hd (lv_at hl j hj) (k ls H locs hl hP hS)
theorem k_istore_n (C : kX g l R own cc nL rt o σe WK) {q : Fin 4} {i : Nat} {x : Int32} (hd : decode cc pc = .ok (.istore_n q, 1)) (hi : (q : Nat) = i) (hn : i < nL) (hl' : (i, (.int x : Value)) :: lv.filter (fun q => !(q.1 == i) && !(q.1 + 1 == i && q.2.category == 2)) = lv') (k : WK (pc + 1) lv' st σ) : WK pc lv (.int x :: st) σ := by
  obtain ⟨p, ev, s, m, args, below, meth, c, ⟨hx, hb, hml, hown, hts⟩, hr, hlk, hU, hg, rfl⟩ := C
  exact fun ls H locs hl hP hS => lv_istore_n hx hb hd hi hl hn hl' (fun ls' h' => k ls' H locs h' hP hS)
theorem k_istore (C : kX g l R own cc nL rt o σe WK) {i : Nat} {x : Int32} (hd : decode cc pc = .ok (.istore i, 2)) (hn : i < nL) (hl' : (i, (.int x : Value)) :: lv.filter (fun q => !(q.1 == i) && !(q.1 + 1 == i && q.2.category == 2)) = lv') (k : WK (pc + 2) lv' st σ) : WK pc lv (.int x :: st) σ := by
  obtain ⟨p, ev, s, m, args, below, meth, c, ⟨hx, hb, hml, hown, hts⟩, hr, hlk, hU, hg, rfl⟩ := C
  exact fun ls H locs hl hP hS => lv_istore hx hb hd hl hn hl' (fun ls' h' => k ls' H locs h' hP hS)
theorem k_lstore_n (C : kX g l R own cc nL rt o σe WK) {q : Fin 4} {i : Nat} {x : Int64} (hd : decode cc pc = .ok (.lstore_n q, 1)) (hi : (q : Nat) = i) (hn : i + 1 < nL) (hl' : (i, (.long x : Value)) :: lv.filter (fun q => !(q.1 == i) && (!(q.1 == i + 1) && !(q.1 + 1 == i && q.2.category == 2))) = lv') (k : WK (pc + 1) lv' st σ) : WK pc lv (.long x :: st) σ := by
  obtain ⟨p, ev, s, m, args, below, meth, c, ⟨hx, hb, hml, hown, hts⟩, hr, hlk, hU, hg, rfl⟩ := C
  exact fun ls H locs hl hP hS => lv_lstore_n hx hb hd hi hl hn hl' (fun ls' h' => k ls' H locs h' hP hS)
theorem k_lstore (C : kX g l R own cc nL rt o σe WK) {i : Nat} {x : Int64} (hd : decode cc pc = .ok (.lstore i, 2)) (hn : i + 1 < nL) (hl' : (i, (.long x : Value)) :: lv.filter (fun q => !(q.1 == i) && (!(q.1 == i + 1) && !(q.1 + 1 == i && q.2.category == 2))) = lv') (k : WK (pc + 2) lv' st σ) : WK pc lv (.long x :: st) σ := by
  obtain ⟨p, ev, s, m, args, below, meth, c, ⟨hx, hb, hml, hown, hts⟩, hr, hlk, hU, hg, rfl⟩ := C
  exact fun ls H locs hl hP hS => lv_lstore hx hb hd hl hn hl' (fun ls' h' => k ls' H locs h' hP hS)
theorem k_astore_n (C : kX g l R own cc nL rt o σe WK) {q : Fin 4} {i : Nat} {x : Nat} (hd : decode cc pc = .ok (.astore_n q, 1)) (hi : (q : Nat) = i) (hn : i < nL) (hl' : (i, (.ref x : Value)) :: lv.filter (fun q => !(q.1 == i) && !(q.1 + 1 == i && q.2.category == 2)) = lv') (k : WK (pc + 1) lv' st σ) : WK pc lv (.ref x :: st) σ := by
  obtain ⟨p, ev, s, m, args, below, meth, c, ⟨hx, hb, hml, hown, hts⟩, hr, hlk, hU, hg, rfl⟩ := C
  exact fun ls H locs hl hP hS => lv_astore_n hx hb hd hi hl hn hl' (fun ls' h' => k ls' H locs h' hP hS)
theorem k_astore (C : kX g l R own cc nL rt o σe WK) {i : Nat} {x : Nat} (hd : decode cc pc = .ok (.astore i, 2)) (hn : i < nL) (hl' : (i, (.ref x : Value)) :: lv.filter (fun q => !(q.1 == i) && !(q.1 + 1 == i && q.2.category == 2)) = lv') (k : WK (pc + 2) lv' st σ) : WK pc lv (.ref x :: st) σ := by
  obtain ⟨p, ev, s, m, args, below, meth, c, ⟨hx, hb, hml, hown, hts⟩, hr, hlk, hU, hg, rfl⟩ := C
  exact fun ls H locs hl hP hS => lv_astore hx hb hd hl hn hl' (fun ls' h' => k ls' H locs h' hP hS)
theorem k_iinc (C : kX g l R own cc nL rt o σe WK) {i j : Nat} {n : Int} {x v : Int32} (hd : decode cc pc = .ok (.iinc i n, 3)) (hj : lv[j]? = some (i, .int x)) (hv : x + Int32.ofInt n = v) (hn : i < nL) (hl' : (i, Value.int v) :: lv.filter (fun q => !(q.1 == i) && !(q.1 + 1 == i && q.2.category == 2)) = lv') (k : WK (pc + 3) lv' st σ) : WK pc lv st σ := by
  obtain ⟨p, ev, s, m, args, below, meth, c, ⟨hx, hb, hml, hown, hts⟩, hr, hlk, hU, hg, rfl⟩ := C
  exact fun ls H locs hl hP hS => lv_iinc hx hb hd hl hj hv hn hl' (fun ls' h' => k ls' H locs h' hP hS)
theorem k_iadd (C : kX g l R own cc nL rt o σe WK) {x y : Int32} (hd : decode cc pc = .ok (.iadd, 1))  (k : WK (pc + 1) lv (.int (x + y) :: st) σ) : WK pc lv (.int y :: .int x :: st) σ := by
  obtain ⟨p, ev, s, m, args, below, meth, c, ⟨hx, hb, hml, hown, hts⟩, hr, hlk, hU, hg, rfl⟩ := C
  exact fun ls H locs hl hP hS => lv_iadd hx hb hd (k ls H locs hl hP hS)
theorem k_isub (C : kX g l R own cc nL rt o σe WK) {x y : Int32} (hd : decode cc pc = .ok (.isub, 1))  (k : WK (pc + 1) lv (.int (x - y) :: st) σ) : WK pc lv (.int y :: .int x :: st) σ := by
  obtain ⟨p, ev, s, m, args, below, meth, c, ⟨hx, hb, hml, hown, hts⟩, hr, hlk, hU, hg, rfl⟩ := C
  exact fun ls H locs hl hP hS => lv_isub hx hb hd (k ls H locs hl hP hS)
theorem k_imul (C : kX g l R own cc nL rt o σe WK) {x y : Int32} (hd : decode cc pc = .ok (.imul, 1))  (k : WK (pc + 1) lv (.int (x * y) :: st) σ) : WK pc lv (.int y :: .int x :: st) σ := by
  obtain ⟨p, ev, s, m, args, below, meth, c, ⟨hx, hb, hml, hown, hts⟩, hr, hlk, hU, hg, rfl⟩ := C
  exact fun ls H locs hl hP hS => lv_imul hx hb hd (k ls H locs hl hP hS)
theorem k_iand (C : kX g l R own cc nL rt o σe WK) {x y : Int32} (hd : decode cc pc = .ok (.iand, 1))  (k : WK (pc + 1) lv (.int (x &&& y) :: st) σ) : WK pc lv (.int y :: .int x :: st) σ := by
  obtain ⟨p, ev, s, m, args, below, meth, c, ⟨hx, hb, hml, hown, hts⟩, hr, hlk, hU, hg, rfl⟩ := C
  exact fun ls H locs hl hP hS => lv_iand hx hb hd (k ls H locs hl hP hS)
theorem k_ior (C : kX g l R own cc nL rt o σe WK) {x y : Int32} (hd : decode cc pc = .ok (.ior, 1))  (k : WK (pc + 1) lv (.int (x ||| y) :: st) σ) : WK pc lv (.int y :: .int x :: st) σ := by
  obtain ⟨p, ev, s, m, args, below, meth, c, ⟨hx, hb, hml, hown, hts⟩, hr, hlk, hU, hg, rfl⟩ := C
  exact fun ls H locs hl hP hS => lv_ior hx hb hd (k ls H locs hl hP hS)
theorem k_ixor (C : kX g l R own cc nL rt o σe WK) {x y : Int32} (hd : decode cc pc = .ok (.ixor, 1))  (k : WK (pc + 1) lv (.int (x ^^^ y) :: st) σ) : WK pc lv (.int y :: .int x :: st) σ := by
  obtain ⟨p, ev, s, m, args, below, meth, c, ⟨hx, hb, hml, hown, hts⟩, hr, hlk, hU, hg, rfl⟩ := C
  exact fun ls H locs hl hP hS => lv_ixor hx hb hd (k ls H locs hl hP hS)
theorem k_ladd (C : kX g l R own cc nL rt o σe WK) {x y : Int64} (hd : decode cc pc = .ok (.ladd, 1))  (k : WK (pc + 1) lv (.long (x + y) :: st) σ) : WK pc lv (.long y :: .long x :: st) σ := by
  obtain ⟨p, ev, s, m, args, below, meth, c, ⟨hx, hb, hml, hown, hts⟩, hr, hlk, hU, hg, rfl⟩ := C
  exact fun ls H locs hl hP hS => lv_ladd hx hb hd (k ls H locs hl hP hS)
theorem k_lsub (C : kX g l R own cc nL rt o σe WK) {x y : Int64} (hd : decode cc pc = .ok (.lsub, 1))  (k : WK (pc + 1) lv (.long (x - y) :: st) σ) : WK pc lv (.long y :: .long x :: st) σ := by
  obtain ⟨p, ev, s, m, args, below, meth, c, ⟨hx, hb, hml, hown, hts⟩, hr, hlk, hU, hg, rfl⟩ := C
  exact fun ls H locs hl hP hS => lv_lsub hx hb hd (k ls H locs hl hP hS)
theorem k_lmul (C : kX g l R own cc nL rt o σe WK) {x y : Int64} (hd : decode cc pc = .ok (.lmul, 1))  (k : WK (pc + 1) lv (.long (x * y) :: st) σ) : WK pc lv (.long y :: .long x :: st) σ := by
  obtain ⟨p, ev, s, m, args, below, meth, c, ⟨hx, hb, hml, hown, hts⟩, hr, hlk, hU, hg, rfl⟩ := C
  exact fun ls H locs hl hP hS => lv_lmul hx hb hd (k ls H locs hl hP hS)
theorem k_land (C : kX g l R own cc nL rt o σe WK) {x y : Int64} (hd : decode cc pc = .ok (.land, 1))  (k : WK (pc + 1) lv (.long (x &&& y) :: st) σ) : WK pc lv (.long y :: .long x :: st) σ := by
  obtain ⟨p, ev, s, m, args, below, meth, c, ⟨hx, hb, hml, hown, hts⟩, hr, hlk, hU, hg, rfl⟩ := C
  exact fun ls H locs hl hP hS => lv_land hx hb hd (k ls H locs hl hP hS)
theorem k_lor (C : kX g l R own cc nL rt o σe WK) {x y : Int64} (hd : decode cc pc = .ok (.lor, 1))  (k : WK (pc + 1) lv (.long (x ||| y) :: st) σ) : WK pc lv (.long y :: .long x :: st) σ := by
  obtain ⟨p, ev, s, m, args, below, meth, c, ⟨hx, hb, hml, hown, hts⟩, hr, hlk, hU, hg, rfl⟩ := C
  exact fun ls H locs hl hP hS => lv_lor hx hb hd (k ls H locs hl hP hS)
theorem k_lxor (C : kX g l R own cc nL rt o σe WK) {x y : Int64} (hd : decode cc pc = .ok (.lxor, 1))  (k : WK (pc + 1) lv (.long (x ^^^ y) :: st) σ) : WK pc lv (.long y :: .long x :: st) σ := by
  obtain ⟨p, ev, s, m, args, below, meth, c, ⟨hx, hb, hml, hown, hts⟩, hr, hlk, hU, hg, rfl⟩ := C
  exact fun ls H locs hl hP hS => lv_lxor hx hb hd (k ls H locs hl hP hS)
theorem k_ishl (C : kX g l R own cc nL rt o σe WK) {x y : Int32} (hd : decode cc pc = .ok (.ishl, 1))  (k : WK (pc + 1) lv (.int (x <<< (y &&& 31)) :: st) σ) : WK pc lv (.int y :: .int x :: st) σ := by
  obtain ⟨p, ev, s, m, args, below, meth, c, ⟨hx, hb, hml, hown, hts⟩, hr, hlk, hU, hg, rfl⟩ := C
  exact fun ls H locs hl hP hS => lv_ishl hx hb hd (k ls H locs hl hP hS)
theorem k_ishr (C : kX g l R own cc nL rt o σe WK) {x y : Int32} (hd : decode cc pc = .ok (.ishr, 1))  (k : WK (pc + 1) lv (.int (x >>> (y &&& 31)) :: st) σ) : WK pc lv (.int y :: .int x :: st) σ := by
  obtain ⟨p, ev, s, m, args, below, meth, c, ⟨hx, hb, hml, hown, hts⟩, hr, hlk, hU, hg, rfl⟩ := C
  exact fun ls H locs hl hP hS => lv_ishr hx hb hd (k ls H locs hl hP hS)
theorem k_idiv (C : kX g l R own cc nL rt o σe WK) {x y : Int32} (hd : decode cc pc = .ok (.idiv, 1)) (hy : ¬ y = 0) (k : WK (pc + 1) lv (.int (x / y) :: st) σ) : WK pc lv (.int y :: .int x :: st) σ := by
  obtain ⟨p, ev, s, m, args, below, meth, c, ⟨hx, hb, hml, hown, hts⟩, hr, hlk, hU, hg, rfl⟩ := C
  exact fun ls H locs hl hP hS => lv_idiv hx hb hd hy (k ls H locs hl hP hS)
theorem k_idivv (C : kX g l R own cc nL rt o σe WK) {x y : Int32} {f : Option ρ} {r : ρ} (hd : decode cc pc = .ok (.idiv, 1)) (h : dvI y f = some r) (k : f = some r → WK (pc + 1) lv (.int (x / y) :: st) σ) : WK pc lv (.int y :: .int x :: st) σ := by
  obtain ⟨p, ev, s, m, args, below, meth, c, ⟨hx, hb, hml, hown, hts⟩, hr, hlk, hU, hg, rfl⟩ := C
  by_cases hy : y = 0
  · rw [dvI, if_pos hy] at h; cases h
  · rw [dvI, if_neg hy] at h
    exact fun ls H locs hl hP hS => lv_idiv hx hb hd hy (k h ls H locs hl hP hS)
theorem k_irem (C : kX g l R own cc nL rt o σe WK) {x y : Int32} (hd : decode cc pc = .ok (.irem, 1)) (hy : ¬ y = 0) (k : WK (pc + 1) lv (.int (x - x / y * y) :: st) σ) : WK pc lv (.int y :: .int x :: st) σ := by
  obtain ⟨p, ev, s, m, args, below, meth, c, ⟨hx, hb, hml, hown, hts⟩, hr, hlk, hU, hg, rfl⟩ := C
  exact fun ls H locs hl hP hS => lv_irem hx hb hd hy (k ls H locs hl hP hS)
theorem k_iremv (C : kX g l R own cc nL rt o σe WK) {x y : Int32} {f : Option ρ} {r : ρ} (hd : decode cc pc = .ok (.irem, 1)) (h : dvI y f = some r) (k : f = some r → WK (pc + 1) lv (.int (x - x / y * y) :: st) σ) : WK pc lv (.int y :: .int x :: st) σ := by
  obtain ⟨p, ev, s, m, args, below, meth, c, ⟨hx, hb, hml, hown, hts⟩, hr, hlk, hU, hg, rfl⟩ := C
  by_cases hy : y = 0
  · rw [dvI, if_pos hy] at h; cases h
  · rw [dvI, if_neg hy] at h
    exact fun ls H locs hl hP hS => lv_irem hx hb hd hy (k h ls H locs hl hP hS)
theorem k_ldiv (C : kX g l R own cc nL rt o σe WK) {x y : Int64} (hd : decode cc pc = .ok (.ldiv, 1)) (hy : ¬ y = 0) (k : WK (pc + 1) lv (.long (x / y) :: st) σ) : WK pc lv (.long y :: .long x :: st) σ := by
  obtain ⟨p, ev, s, m, args, below, meth, c, ⟨hx, hb, hml, hown, hts⟩, hr, hlk, hU, hg, rfl⟩ := C
  exact fun ls H locs hl hP hS => lv_ldiv hx hb hd hy (k ls H locs hl hP hS)
theorem k_ldivv (C : kX g l R own cc nL rt o σe WK) {x y : Int64} {f : Option ρ} {r : ρ} (hd : decode cc pc = .ok (.ldiv, 1)) (h : dvL y f = some r) (k : f = some r → WK (pc + 1) lv (.long (x / y) :: st) σ) : WK pc lv (.long y :: .long x :: st) σ := by
  obtain ⟨p, ev, s, m, args, below, meth, c, ⟨hx, hb, hml, hown, hts⟩, hr, hlk, hU, hg, rfl⟩ := C
  by_cases hy : y = 0
  · rw [dvL, if_pos hy] at h; cases h
  · rw [dvL, if_neg hy] at h
    exact fun ls H locs hl hP hS => lv_ldiv hx hb hd hy (k h ls H locs hl hP hS)
theorem k_lrem (C : kX g l R own cc nL rt o σe WK) {x y : Int64} (hd : decode cc pc = .ok (.lrem, 1)) (hy : ¬ y = 0) (k : WK (pc + 1) lv (.long (x - x / y * y) :: st) σ) : WK pc lv (.long y :: .long x :: st) σ := by
  obtain ⟨p, ev, s, m, args, below, meth, c, ⟨hx, hb, hml, hown, hts⟩, hr, hlk, hU, hg, rfl⟩ := C
  exact fun ls H locs hl hP hS => lv_lrem hx hb hd hy (k ls H locs hl hP hS)
theorem k_lremv (C : kX g l R own cc nL rt o σe WK) {x y : Int64} {f : Option ρ} {r : ρ} (hd : decode cc pc = .ok (.lrem, 1)) (h : dvL y f = some r) (k : f = some r → WK (pc + 1) lv (.long (x - x / y * y) :: st) σ) : WK pc lv (.long y :: .long x :: st) σ := by
  obtain ⟨p, ev, s, m, args, below, meth, c, ⟨hx, hb, hml, hown, hts⟩, hr, hlk, hU, hg, rfl⟩ := C
  by_cases hy : y = 0
  · rw [dvL, if_pos hy] at h; cases h
  · rw [dvL, if_neg hy] at h
    exact fun ls H locs hl hP hS => lv_lrem hx hb hd hy (k h ls H locs hl hP hS)
theorem k_ineg (C : kX g l R own cc nL rt o σe WK) {x : Int32} (hd : decode cc pc = .ok (.ineg, 1))  (k : WK (pc + 1) lv (.int (-x) :: st) σ) : WK pc lv (.int x :: st) σ := by
  obtain ⟨p, ev, s, m, args, below, meth, c, ⟨hx, hb, hml, hown, hts⟩, hr, hlk, hU, hg, rfl⟩ := C
  exact fun ls H locs hl hP hS => lv_ineg hx hb hd (k ls H locs hl hP hS)
theorem k_i2l (C : kX g l R own cc nL rt o σe WK) {x : Int32} (hd : decode cc pc = .ok (.i2l, 1))  (k : WK (pc + 1) lv (.long x.toInt64 :: st) σ) : WK pc lv (.int x :: st) σ := by
  obtain ⟨p, ev, s, m, args, below, meth, c, ⟨hx, hb, hml, hown, hts⟩, hr, hlk, hU, hg, rfl⟩ := C
  exact fun ls H locs hl hP hS => lv_i2l hx hb hd rfl (k ls H locs hl hP hS)
theorem k_l2i (C : kX g l R own cc nL rt o σe WK) {x : Int64} (hd : decode cc pc = .ok (.l2i, 1))  (k : WK (pc + 1) lv (.int x.toInt32 :: st) σ) : WK pc lv (.long x :: st) σ := by
  obtain ⟨p, ev, s, m, args, below, meth, c, ⟨hx, hb, hml, hown, hts⟩, hr, hlk, hU, hg, rfl⟩ := C
  exact fun ls H locs hl hP hS => lv_l2i hx hb hd rfl (k ls H locs hl hP hS)
theorem k_i2b (C : kX g l R own cc nL rt o σe WK) {x : Int32} (hd : decode cc pc = .ok (.i2b, 1))  (k : WK (pc + 1) lv (.int x.toInt8.toInt32 :: st) σ) : WK pc lv (.int x :: st) σ := by
  obtain ⟨p, ev, s, m, args, below, meth, c, ⟨hx, hb, hml, hown, hts⟩, hr, hlk, hU, hg, rfl⟩ := C
  exact fun ls H locs hl hP hS => lv_i2b hx hb hd rfl (k ls H locs hl hP hS)
theorem k_lshl (C : kX g l R own cc nL rt o σe WK) {x : Int64} {y : Int32} (hd : decode cc pc = .ok (.lshl, 1))  (k : WK (pc + 1) lv (.long (x <<< (y.toInt64 &&& 63)) :: st) σ) : WK pc lv (.int y :: .long x :: st) σ := by
  obtain ⟨p, ev, s, m, args, below, meth, c, ⟨hx, hb, hml, hown, hts⟩, hr, hlk, hU, hg, rfl⟩ := C
  exact fun ls H locs hl hP hS => lv_lshl hx hb hd rfl (k ls H locs hl hP hS)
theorem k_lshr (C : kX g l R own cc nL rt o σe WK) {x : Int64} {y : Int32} (hd : decode cc pc = .ok (.lshr, 1))  (k : WK (pc + 1) lv (.long (x >>> (y.toInt64 &&& 63)) :: st) σ) : WK pc lv (.int y :: .long x :: st) σ := by
  obtain ⟨p, ev, s, m, args, below, meth, c, ⟨hx, hb, hml, hown, hts⟩, hr, hlk, hU, hg, rfl⟩ := C
  exact fun ls H locs hl hP hS => lv_lshr hx hb hd rfl (k ls H locs hl hP hS)
theorem k_lushr (C : kX g l R own cc nL rt o σe WK) {x : Int64} {y : Int32} (hd : decode cc pc = .ok (.lushr, 1))  (k : WK (pc + 1) lv (.long (x.toUInt64 >>> (y.toInt64.toUInt64 &&& Int64.toUInt64 63)).toInt64 :: st) σ) : WK pc lv (.int y :: .long x :: st) σ := by
  obtain ⟨p, ev, s, m, args, below, meth, c, ⟨hx, hb, hml, hown, hts⟩, hr, hlk, hU, hg, rfl⟩ := C
  exact fun ls H locs hl hP hS => lv_lushr hx hb hd rfl (k ls H locs hl hP hS)
theorem k_lcmp (C : kX g l R own cc nL rt o σe WK) {x y : Int64} (hd : decode cc pc = .ok (.lcmp, 1))  (k : WK (pc + 1) lv (.int (lg_cmp x y) :: st) σ) : WK pc lv (.long y :: .long x :: st) σ := by
  obtain ⟨p, ev, s, m, args, below, meth, c, ⟨hx, hb, hml, hown, hts⟩, hr, hlk, hU, hg, rfl⟩ := C
  exact fun ls H locs hl hP hS => W.lcmp hx hb hd (k ls H locs hl hP hS)
theorem k_dup (C : kX g l R own cc nL rt o σe WK) {v : Value} (hd : decode cc pc = .ok (.dup, 1)) (hv : v.category = 1) (k : WK (pc + 1) lv (v :: v :: st) σ) : WK pc lv (v :: st) σ := by
  obtain ⟨p, ev, s, m, args, below, meth, c, ⟨hx, hb, hml, hown, hts⟩, hr, hlk, hU, hg, rfl⟩ := C
  exact fun ls H locs hl hP hS => lv_dup hx hb hd hv (k ls H locs hl hP hS)
theorem k_dup2 (C : kX g l R own cc nL rt o σe WK) {v u : Value} (hd : decode cc pc = .ok (.dup2, 1)) (hv : v.category = 1) (hu : u.category = 1) (k : WK (pc + 1) lv (v :: u :: v :: u :: st) σ) : WK pc lv (v :: u :: st) σ := by
  obtain ⟨p, ev, s, m, args, below, meth, c, ⟨hx, hb, hml, hown, hts⟩, hr, hlk, hU, hg, rfl⟩ := C
  exact fun ls H locs hl hP hS => lv_dup2_11 hx hb hd hv hu (k ls H locs hl hP hS)
theorem k_goto (C : kX g l R own cc nL rt o σe WK) {off : Int} {tgt : Nat} (hd : decode cc pc = .ok (.goto off, 3)) (ht : (pc : Int) + off = (tgt : Int)) (k : WK tgt lv st σ) : WK pc lv st σ := by
  obtain ⟨p, ev, s, m, args, below, meth, c, ⟨hx, hb, hml, hown, hts⟩, hr, hlk, hU, hg, rfl⟩ := C
  exact fun ls H locs hl hP hS => lv_goto hx hb hd ht (k ls H locs hl hP hS)
theorem k_if_eq (C : kX g l R own cc nL rt o σe WK) {x : Int32} {off : Int} {tgt : Nat} {a b : Option ρ} {r : ρ} (hd : decode cc pc = .ok (.ifCond .eq off, 3)) (ht : (pc : Int) + off = (tgt : Int)) (h : (if x = 0 then a else b) = some r) (kt : a = some r → WK tgt lv st σ) (kf : b = some r → WK (pc + 3) lv st σ) : WK pc lv (.int x :: st) σ := by
  obtain ⟨p, ev, s, m, args, below, meth, c, ⟨hx, hb, hml, hown, hts⟩, hr, hlk, hU, hg, rfl⟩ := C
  exact fun ls H locs hl hP hS => lv_if_eq hx hb hd ht (fun q => kt (by rw [if_pos q] at h; exact h) ls H locs hl hP hS) (fun q => kf (by rw [if_neg q] at h; exact h) ls H locs hl hP hS)
theorem k_icmp_eq (C : kX g l R own cc nL rt o σe WK) {x y : Int32} {off : Int} {tgt : Nat} {a b : Option ρ} {r : ρ} (hd : decode cc pc = .ok (.if_icmp .eq off, 3)) (ht : (pc : Int) + off = (tgt : Int)) (h : (if x = y then a else b) = some r) (kt : a = some r → WK tgt lv st σ) (kf : b = some r → WK (pc + 3) lv st σ) : WK pc lv (.int y :: .int x :: st) σ := by
  obtain ⟨p, ev, s, m, args, below, meth, c, ⟨hx, hb, hml, hown, hts⟩, hr, hlk, hU, hg, rfl⟩ := C
  exact fun ls H locs hl hP hS => lv_icmp_eq hx hb hd ht (fun q => kt (by rw [if_pos q] at h; exact h) ls H locs hl hP hS) (fun q => kf (by rw [if_neg q] at h; exact h) ls H locs hl hP hS)
theorem k_if_ne (C : kX g l R own cc nL rt o σe WK) {x : Int32} {off : Int} {tgt : Nat} {a b : Option ρ} {r : ρ} (hd : decode cc pc = .ok (.ifCond .ne off, 3)) (ht : (pc : Int) + off = (tgt : Int)) (h : (if x = 0 then a else b) = some r) (kt : b = some r → WK tgt lv st σ) (kf : a = some r → WK (pc + 3) lv st σ) : WK pc lv (.int x :: st) σ := by
  obtain ⟨p, ev, s, m, args, below, meth, c, ⟨hx, hb, hml, hown, hts⟩, hr, hlk, hU, hg, rfl⟩ := C
  exact fun ls H locs hl hP hS => lv_if_ne hx hb hd ht (fun q => kt (by rw [if_neg q] at h; exact h) ls H locs hl hP hS) (fun q => kf (by rw [if_pos q] at h; exact h) ls H locs hl hP hS)
theorem k_icmp_ne (C : kX g l R own cc nL rt o σe WK) {x y : Int32} {off : Int} {tgt : Nat} {a b : Option ρ} {r : ρ} (hd : decode cc pc = .ok (.if_icmp .ne off, 3)) (ht : (pc : Int) + off = (tgt : Int)) (h : (if x = y then a else b) = some r) (kt : b = some r → WK tgt lv st σ) (kf : a = some r → WK (pc + 3) lv st σ) : WK pc lv (.int y :: .int x :: st) σ := by
  obtain ⟨p, ev, s, m, args, below, meth, c, ⟨hx, hb, hml, hown, hts⟩, hr, hlk, hU, hg, rfl⟩ := C
  exact fun ls H locs hl hP hS => lv_icmp_ne hx hb hd ht (fun q => kt (by rw [if_neg q] at h; exact h) ls H locs hl hP hS) (fun q => kf (by rw [if_pos q] at h; exact h) ls H locs hl hP hS)
theorem k_if_lt (C : kX g l R own cc nL rt o σe WK) {x : Int32} {off : Int} {tgt : Nat} {a b : Option ρ} {r : ρ} (hd : decode cc pc = .ok (.ifCond .lt off, 3)) (ht : (pc : Int) + off = (tgt : Int)) (h : (if x < 0 then a else b) = some r) (kt : a = some r → WK tgt lv st σ) (kf : b = some r → WK (pc + 3) lv st σ) : WK pc lv (.int x :: st) σ := by
  obtain ⟨p, ev, s, m, args, below, meth, c, ⟨hx, hb, hml, hown, hts⟩, hr, hlk, hU, hg, rfl⟩ := C
  exact fun ls H locs hl hP hS => lv_if_lt hx hb hd ht (fun q => kt (by rw [if_pos q] at h; exact h) ls H locs hl hP hS) (fun q => kf (by rw [if_neg q] at h; exact h) ls H locs hl hP hS)
theorem k_icmp_lt (C : kX g l R own cc nL rt o σe WK) {x y : Int32} {off : Int} {tgt : Nat} {a b : Option ρ} {r : ρ} (hd : decode cc pc = .ok (.if_icmp .lt off, 3)) (ht : (pc : Int) + off = (tgt : Int)) (h : (if x < y then a else b) = some r) (kt : a = some r → WK tgt lv st σ) (kf : b = some r → WK (pc + 3) lv st σ) : WK pc lv (.int y :: .int x :: st) σ := by
  obtain ⟨p, ev, s, m, args, below, meth, c, ⟨hx, hb, hml, hown, hts⟩, hr, hlk, hU, hg, rfl⟩ := C
  exact fun ls H locs hl hP hS => lv_icmp_lt hx hb hd ht (fun q => kt (by rw [if_pos q] at h; exact h) ls H locs hl hP hS) (fun q => kf (by rw [if_neg q] at h; exact h) ls H locs hl hP hS)
theorem k_if_ge (C : kX g l R own cc nL rt o σe WK) {x : Int32} {off : Int} {tgt : Nat} {a b : Option ρ} {r : ρ} (hd : decode cc pc = .ok (.ifCond .ge off, 3)) (ht : (pc : Int) + off = (tgt : Int)) (h : (if 0 ≤ x then a else b) = some r) (kt : a = some r → WK tgt lv st σ) (kf : b = some r → WK (pc + 3) lv st σ) : WK pc lv (.int x :: st) σ := by
  obtain ⟨p, ev, s, m, args, below, meth, c, ⟨hx, hb, hml, hown, hts⟩, hr, hlk, hU, hg, rfl⟩ := C
  exact fun ls H locs hl hP hS => lv_if_ge hx hb hd ht (fun q => kt (by rw [if_pos q] at h; exact h) ls H locs hl hP hS) (fun q => kf (by rw [if_neg q] at h; exact h) ls H locs hl hP hS)
theorem k_icmp_ge (C : kX g l R own cc nL rt o σe WK) {x y : Int32} {off : Int} {tgt : Nat} {a b : Option ρ} {r : ρ} (hd : decode cc pc = .ok (.if_icmp .ge off, 3)) (ht : (pc : Int) + off = (tgt : Int)) (h : (if y ≤ x then a else b) = some r) (kt : a = some r → WK tgt lv st σ) (kf : b = some r → WK (pc + 3) lv st σ) : WK pc lv (.int y :: .int x :: st) σ := by
  obtain ⟨p, ev, s, m, args, below, meth, c, ⟨hx, hb, hml, hown, hts⟩, hr, hlk, hU, hg, rfl⟩ := C
  exact fun ls H locs hl hP hS => lv_icmp_ge hx hb hd ht (fun q => kt (by rw [if_pos q] at h; exact h) ls H locs hl hP hS) (fun q => kf (by rw [if_neg q] at h; exact h) ls H locs hl hP hS)
theorem k_if_gt (C : kX g l R own cc nL rt o σe WK) {x : Int32} {off : Int} {tgt : Nat} {a b : Option ρ} {r : ρ} (hd : decode cc pc = .ok (.ifCond .gt off, 3)) (ht : (pc : Int) + off = (tgt : Int)) (h : (if 0 < x then a else b) = some r) (kt : a = some r → WK tgt lv st σ) (kf : b = some r → WK (pc + 3) lv st σ) : WK pc lv (.int x :: st) σ := by
  obtain ⟨p, ev, s, m, args, below, meth, c, ⟨hx, hb, hml, hown, hts⟩, hr, hlk, hU, hg, rfl⟩ := C
  exact fun ls H locs hl hP hS => lv_if_gt hx hb hd ht (fun q => kt (by rw [if_pos q] at h; exact h) ls H locs hl hP hS) (fun q => kf (by rw [if_neg q] at h; exact h) ls H locs hl hP hS)
theorem k_icmp_gt (C : kX g l R own cc nL rt o σe WK) {x y : Int32} {off : Int} {tgt : Nat} {a b : Option ρ} {r : ρ} (hd : decode cc pc = .ok (.if_icmp .gt off, 3)) (ht : (pc : Int) + off = (tgt : Int)) (h : (if y < x then a else b) = some r) (kt : a = some r → WK tgt lv st σ) (kf : b = some r → WK (pc + 3) lv st σ) : WK pc lv (.int y :: .int x :: st) σ := by
  obtain ⟨p, ev, s, m, args, below, meth, c, ⟨hx, hb, hml, hown, hts⟩, hr, hlk, hU, hg, rfl⟩ := C
  exact fun ls H locs hl hP hS => lv_icmp_gt hx hb hd ht (fun q => kt (by rw [if_pos q] at h; exact h) ls H locs hl hP hS) (fun q => kf (by rw [if_neg q] at h; exact h) ls H locs hl hP hS)
theorem k_if_le (C : kX g l R own cc nL rt o σe WK) {x : Int32} {off : Int} {tgt : Nat} {a b : Option ρ} {r : ρ} (hd : decode cc pc = .ok (.ifCond .le off, 3)) (ht : (pc : Int) + off = (tgt : Int)) (h : (if x ≤ 0 then a else b) = some r) (kt : a = some r → WK tgt lv st σ) (kf : b = some r → WK (pc + 3) lv st σ) : WK pc lv (.int x :: st) σ := by
  obtain ⟨p, ev, s, m, args, below, meth, c, ⟨hx, hb, hml, hown, hts⟩, hr, hlk, hU, hg, rfl⟩ := C
  exact fun ls H locs hl hP hS => lv_if_le hx hb hd ht (fun q => kt (by rw [if_pos q] at h; exact h) ls H locs hl hP hS) (fun q => kf (by rw [if_neg q] at h; exact h) ls H locs hl hP hS)
theorem k_icmp_le (C : kX g l R own cc nL rt o σe WK) {x y : Int32} {off : Int} {tgt : Nat} {a b : Option ρ} {r : ρ} (hd : decode cc pc = .ok (.if_icmp .le off, 3)) (ht : (pc : Int) + off = (tgt : Int)) (h : (if x ≤ y then a else b) = some r) (kt : a = some r → WK tgt lv st σ) (kf : b = some r → WK (pc + 3) lv st σ) : WK pc lv (.int y :: .int x :: st) σ := by
  obtain ⟨p, ev, s, m, args, below, meth, c, ⟨hx, hb, hml, hown, hts⟩, hr, hlk, hU, hg, rfl⟩ := C
  exact fun ls H locs hl hP hS => lv_icmp_le hx hb hd ht (fun q => kt (by rw [if_pos q] at h; exact h) ls H locs hl hP hS) (fun q => kf (by rw [if_neg q] at h; exact h) ls H locs hl hP hS)
theorem k_tsIn (C : kX g l R own cc nL rt o σe WK) {dflt lo hi : Int} {offs : Array Int} {len : Nat} {x q : Int32} {off : Int} {tgt : Nat} (hd : decode cc pc = .ok (.tableswitch dflt lo hi offs, len)) (h1 : ¬ q.toInt < lo) (h2 : ¬ hi < q.toInt) (ho : offs[(q.toInt - lo).toNat]? = some off) (ht : (pc : Int) + off = (tgt : Int)) (e : x = q) (k : WK tgt lv st σ) : WK pc lv (.int x :: st) σ := by
  obtain ⟨p, ev, s, m, args, below, meth, c, ⟨hx, hb, hml, hown, hts⟩, hr, hlk, hU, hg, rfl⟩ := C
  subst e
  exact fun ls H locs hl hP hS => lv_tableIn hx hb hd h1 h2 ho ht (k ls H locs hl hP hS)
theorem k_tsOut (C : kX g l R own cc nL rt o σe WK) {dflt lo hi : Int} {offs : Array Int} {len : Nat} {x : Int32} {tgt : Nat} (hd : decode cc pc = .ok (.tableswitch dflt lo hi offs, len)) (h : x.toInt < lo ∨ hi < x.toInt) (ht : (pc : Int) + dflt = (tgt : Int)) (k : WK tgt lv st σ) : WK pc lv (.int x :: st) σ := by
  obtain ⟨p, ev, s, m, args, below, meth, c, ⟨hx, hb, hml, hown, hts⟩, hr, hlk, hU, hg, rfl⟩ := C
  exact fun ls H locs hl hP hS => lv_tableOut hx hb hd h ht (k ls H locs hl hP hS)
theorem k_ls (C : kX g l R own cc nL rt o σe WK) {dflt : Int} {ps : Array (Int × Int)} {len : Nat} {x : Int32} {off : Int} {tgt : Nat} (hd : decode cc pc = .ok (.lookupswitch dflt ps, len)) (hp : (ps.toList.zip (ps.toList.drop 1)).all (fun (a, next) => a.1 < next.1) = true) (ho : Op.lookupswitch.offset ps.toList dflt x.toInt = off) (ht : (pc : Int) + off = (tgt : Int)) (k : WK tgt lv st σ) : WK pc lv (.int x :: st) σ := by
  obtain ⟨p, ev, s, m, args, below, meth, c, ⟨hx, hb, hml, hown, hts⟩, hr, hlk, hU, hg, rfl⟩ := C
  exact fun ls H locs hl hP hS => lv_lookup hx hb hd hp ho ht (k ls H locs hl hP hS)
theorem k_sub (C : kX g l R own cc nL rt o σe WK) (js : List Nat) (e : lv_pick lv js = lv') (k : WK pc lv' st σ) : WK pc lv st σ := by
  obtain ⟨p, ev, s, m, args, below, meth, c, ⟨hx, hb, hml, hown, hts⟩, hr, hlk, hU, hg, rfl⟩ := C
  exact fun ls H locs hl hP hS => k ls H locs (lv_sub hl js e) hP hS
theorem k_getI (C : kX g l R own cc nL rt o σe WK) {D : String} {T : u_T} {N ci i k ob : Nat} {f : Int32 → Option ρ} {r : ρ} (hin : ∀ w ∈ u_ws D T N, w ∈ WS) (hk : kd ob = ci) (hci : ci < 10) (hc : vwCl[ci]? = some (D, T, N)) (hkN : k < N) (hw : Cond.fieldLink own i (T k).1 (T k).2.1 (T k).2.2.1 ∈ WS) (hv : (fl g.2.2 σ ob ci)[k]? = some (.int (gI σ ob k))) (hd : decode cc pc = .ok (.getfield i, 3)) (h : kl (gI σ ob k) f = some r) (kk : ∀ v, f v = some r → WK (pc + 3) lv (.int v :: st) σ) : WK pc lv (.ref (g.2.2 ob) :: st) σ := by
  obtain ⟨p, ev, s, m, args, below, meth, c, ⟨hx, hb, hml, hown, hts⟩, hr, hlk, hU, hg, rfl⟩ := C
  exact fun ls H locs hl hP hS => va_get (D := g.1) hx hb hts hin hown hU.1 hP ob (by rw [wd_get (kd_lt hk (by omega)), en_o hk hci]) hc k hkN (hts _ hw) (fun _ h9 => h9) hv hd (kk _ h ls H locs hl hP hS)
theorem k_getR (C : kX g l R own cc nL rt o σe WK) {D : String} {T : u_T} {N ci i k ob q : Nat} (hin : ∀ w ∈ u_ws D T N, w ∈ WS) (hk : kd ob = ci) (hci : ci < 10) (hc : vwCl[ci]? = some (D, T, N)) (hkN : k < N) (hw : Cond.fieldLink own i (T k).1 (T k).2.1 (T k).2.2.1 ∈ WS) (hv : (fl g.2.2 σ ob ci)[k]? = some (.ref (g.2.2 q))) (hd : decode cc pc = .ok (.getfield i, 3)) (kk : WK (pc + 3) lv (.ref (g.2.2 q) :: st) σ) : WK pc lv (.ref (g.2.2 ob) :: st) σ := by
  obtain ⟨p, ev, s, m, args, below, meth, c, ⟨hx, hb, hml, hown, hts⟩, hr, hlk, hU, hg, rfl⟩ := C
  exact fun ls H locs hl hP hS => va_get (D := g.1) hx hb hts hin hown hU.1 hP ob (by rw [wd_get (kd_lt hk (by omega)), en_o hk hci]) hc k hkN (hts _ hw) (fun _ h9 => h9) hv hd (kk ls H locs hl hP hS)
theorem k_getK (C : kX g l R own cc nL rt o σe WK) {i : Nat} {f : Nat → Option ρ} {r : ρ} (hin : ∀ w ∈ u_ws RX11 TX11 39, w ∈ WS) (hw : Cond.fieldLink own i (TX11 30).1 (TX11 30).2.1 (TX11 30).2.2.1 ∈ WS) (hd : decode cc pc = .ok (.getfield i, 3)) (h : gK σ f = some r) (kk : ∀ n, (n = 57 ∨ n = 58) → f n = some r → WK (pc + 3) lv (.ref (g.2.2 n) :: st) σ) : WK pc lv (.ref (g.2.2 45) :: st) σ := by
  obtain ⟨p, ev, s, m, args, below, meth, c, ⟨hx, hb, hml, hown, hts⟩, hr, hlk, hU, hg, rfl⟩ := C
  unfold gK at h
  split at h
  · rename_i hn
    exact fun ls H locs hl hP hS => va_get (D := g.1) (v := .ref (g.2.2 σ.2.2.2)) hx hb hts hin hown hU.1 hP 45 (by rw [wd_get (by omega), en_o (c := 6) rfl (by omega)]) (show vwCl[6]? = some (RX11, TX11, 39) from rfl) 30 (by omega) (hts _ hw) (fun _ h9 => h9) (by show some (if σ.2.2.2 = 0 then Value.null else .ref (g.2.2 σ.2.2.2)) = _; rw [if_neg (by omega)]) hd (kk _ hn h ls H locs hl hP hS)
  · cases h
theorem k_putI (C : kX g l R own cc nL rt o σe WK) {D : String} {T : u_T} {N ci i k ob : Nat} {ty0 : Nat → FieldType} {v : Int32} {f : St → Option ρ} {r : ρ} (hin : ∀ w ∈ u_ws D T N, w ∈ WS) (hty : ∀ k, k < N → parseFieldDescriptor (T k).2.2.1 = some (ty0 k)) (hnm : ∀ a, a < N → ∀ b, b < N → a ≠ b → (T a).2.1 ≠ (T b).2.1) (hk : kd ob = ci) (hci : ci < 10) (hc : vwCl[ci]? = some (D, T, N)) (hkN : k < N) (hw : Cond.fieldLink own i (T k).1 (T k).2.1 (T k).2.2.1 ∈ WS) (hfin : (T k).2.2.2 = false) (hdsc : ty0 k = .int) (hlen : k < (fl g.2.2 σ ob ci).length) (hfl : (fl g.2.2 σ ob ci).set k (.int v) = fl g.2.2 (pI σ ob k v) ob ci) (hd : decode cc pc = .ok (.putfield i, 3)) (h : kl (pI σ ob k v) f = some r) (kk : ∀ σ', f σ' = some r → WK (pc + 3) lv st σ') : WK pc lv (.int v :: .ref (g.2.2 ob) :: st) σ := by
  obtain ⟨p, ev, s, m, args, below, meth, c, ⟨hx, hb, hml, hown, hts⟩, hr, hlk, hU, hg, rfl⟩ := C
  intro ls H locs hl hP hS
  have h67 : ob < 67 := kd_lt hk (by omega)
  refine va_put (D := g.1) (ty := .int) hx hb hts hin ty0 hty hnm hown hU.1 hP (wd_D hg) hS ob (by rw [wd_get h67, en_o hk hci]) hc k hkN (hts _ hw) (fun _ h9 => h9) hfin (by rw [hty k hkN, hdsc]) rfl rfl hlen hd (fun H1 locs1 hP1 hD1 hS1 => ?_)
  rw [wd_set (σ' := pI σ ob k v) h67 (by rw [en_o hk hci, hfl]) (fun j hj => en_pI_n hj)] at hP1
  exact kk _ h ls H1 locs1 hl hP1 hS1
theorem k_putZ (C : kX g l R own cc nL rt o σe WK) {D : String} {T : u_T} {N ci i k ob : Nat} {ty0 : Nat → FieldType} {v : Int32} {f : St → Option ρ} {r : ρ} (hin : ∀ w ∈ u_ws D T N, w ∈ WS) (hty : ∀ k, k < N → parseFieldDescriptor (T k).2.2.1 = some (ty0 k)) (hnm : ∀ a, a < N → ∀ b, b < N → a ≠ b → (T a).2.1 ≠ (T b).2.1) (hk : kd ob = ci) (hci : ci < 10) (hc : vwCl[ci]? = some (D, T, N)) (hkN : k < N) (hw : Cond.fieldLink own i (T k).1 (T k).2.1 (T k).2.2.1 ∈ WS) (hfin : (T k).2.2.2 = false) (hdsc : ty0 k = .boolean) (hlen : k < (fl g.2.2 σ ob ci).length) (hfl : (fl g.2.2 σ ob ci).set k (.int v) = fl g.2.2 (pI σ ob k v) ob ci) (hd : decode cc pc = .ok (.putfield i, 3)) (h : stZ σ ob k v f = some r) (kk : ∀ σ', f σ' = some r → WK (pc + 3) lv st σ') : WK pc lv (.int v :: .ref (g.2.2 ob) :: st) σ := by
  obtain ⟨p, ev, s, m, args, below, meth, c, ⟨hx, hb, hml, hown, hts⟩, hr, hlk, hU, hg, rfl⟩ := C
  unfold stZ at h
  split at h
  · rename_i hv
    intro ls H locs hl hP hS
    have h67 : ob < 67 := kd_lt hk (by omega)
    refine va_put (D := g.1) (ty := .boolean) hx hb hts hin ty0 hty hnm hown hU.1 hP (wd_D hg) hS ob (by rw [wd_get h67, en_o hk hci]) hc k hkN (hts _ hw) (fun _ h9 => h9) hfin (by rw [hty k hkN, hdsc]) (by rcases hv with rfl | rfl <;> rfl) (by rcases hv with rfl | rfl <;> rfl) hlen hd (fun H1 locs1 hP1 hD1 hS1 => ?_)
    rw [wd_set (σ' := pI σ ob k v) h67 (by rw [en_o hk hci, hfl]) (fun j hj => en_pI_n hj)] at hP1
    exact kk _ h ls H1 locs1 hl hP1 hS1
  · cases h
theorem k_putK (C : kX g l R own cc nL rt o σe WK) {i n : Nat} {f : St → Option ρ} {r : ρ} (hin : ∀ w ∈ u_ws RX11 TX11 39, w ∈ WS) (hw : Cond.fieldLink own i (TX11 30).1 (TX11 30).2.1 (TX11 30).2.2.1 ∈ WS) (hn : n ≠ 0) (hd : decode cc pc = .ok (.putfield i, 3)) (h : kl (pK σ n) f = some r) (kk : ∀ σ', f σ' = some r → WK (pc + 3) lv st σ') : WK pc lv (.ref (g.2.2 n) :: .ref (g.2.2 45) :: st) σ := by
  obtain ⟨p, ev, s, m, args, below, meth, c, ⟨hx, hb, hml, hown, hts⟩, hr, hlk, hU, hg, rfl⟩ := C
  intro ls H locs hl hP hS
  refine va_put (D := g.1) (ty := .array .int) hx hb hts hin tyX11 tyX11_ok nmX11 hown hU.1 hP (wd_D hg) hS 45 (by rw [wd_get (by omega), en_o (c := 6) rfl (by omega)]) (show vwCl[6]? = some (RX11, TX11, 39) from rfl) 30 (by omega) (hts _ hw) (fun _ h9 => h9) rfl (tyX11_ok 30 (by omega)) rfl rfl (Nat.le_of_ble_eq_true rfl) hd (fun H1 locs1 hP1 hD1 hS1 => ?_)
  have e9 : (if n = 0 then Value.null else .ref (g.2.2 n)) = .ref (g.2.2 n) := if_neg hn
  have hw9 : ∀ j, j < 67 → j ≠ 45 → en g (pK σ n) j = en g σ j := fun j h1 h2 => en_pK_n h1 h2
  have e8 : (wd g σ).set 45 (g.2.2 45, .inr (6, (fl g.2.2 σ 45 6).set 30 (.ref (g.2.2 n)))) = wd g (pK σ n) := by
    rw [← e9]
    apply List.ext_getElem?
    intro j
    by_cases hjo : j = 45
    · subst hjo
      rw [wd_get (by omega), List.getElem?_set_self (by simp [wd]), en_o (c := 6) rfl (by omega)]
      rfl
    · rw [List.getElem?_set_ne (fun q => hjo q.symm)]
      rcases Nat.lt_or_ge j 67 with q | q
      · rw [wd_get q, wd_get q, hw9 j q hjo]
      · rw [List.getElem?_eq_none (by simp [wd]; exact q), List.getElem?_eq_none (by simp [wd]; exact q)]
  rw [e8] at hP1
  exact kk _ h ls H1 locs1 hl hP1 hS1
theorem k_iald (C : kX g l R own cc nL rt o σe WK) {a n : Nat} {i : Int32} {f : Int32 → Option ρ} {r : ρ} (hk : kd a = 10) (hn : ln a = n) (hd : decode cc pc = .ok (.iaload, 1)) (h : ldA σ a n i f = some r) (kk : ∀ v, f v = some r → WK (pc + 1) lv (.int v :: st) σ) : WK pc lv (.int i :: .ref (g.2.2 a) :: st) σ := by
  obtain ⟨p, ev, s, m, args, below, meth, c, ⟨hx, hb, hml, hown, hts⟩, hr, hlk, hU, hg, rfl⟩ := C
  unfold ldA at h
  split at h
  · cases h
  · rename_i hi
    exact fun ls H locs hl hP hS => va_iald (D := g.1) (f := σ.2.1 a) hx hb hU.1 hP a 0 (by rw [wd_get (kd_lt hk (by omega)), en_i hk, hn]) rfl hi hd (kk _ h ls H locs hl hP hS)
theorem k_lald (C : kX g l R own cc nL rt o σe WK) {a n : Nat} {i : Int32} {f : Int64 → Option ρ} {r : ρ} (hk : kd a = 11) (hn : ln a = n) (hd : decode cc pc = .ok (.laload, 1)) (h : ldL σ a n i f = some r) (kk : ∀ v, f v = some r → WK (pc + 1) lv (.long v :: st) σ) : WK pc lv (.int i :: .ref (g.2.2 a) :: st) σ := by
  obtain ⟨p, ev, s, m, args, below, meth, c, ⟨hx, hb, hml, hown, hts⟩, hr, hlk, hU, hg, rfl⟩ := C
  unfold ldL at h
  split at h
  · cases h
  · rename_i hi
    exact fun ls H locs hl hP hS => va_lald (D := g.1) (f := σ.2.2.1 a) hx hb hU.1 hP a 1 (by rw [wd_get (kd_lt hk (by omega)), en_l hk, hn]) rfl hi hd (kk _ h ls H locs hl hP hS)
theorem k_aald (C : kX g l R own cc nL rt o σe WK) {i : Int32} {f : Nat → Option ρ} {r : ρ} (hd : decode cc pc = .ok (.aaload, 1)) (h : ldR i f = some r) (kk : ∀ n, kd n = 3 → f n = some r → WK (pc + 1) lv (.ref (g.2.2 n) :: st) σ) : WK pc lv (.int i :: .ref (g.2.2 44) :: st) σ := by
  obtain ⟨p, ev, s, m, args, below, meth, c, ⟨hx, hb, hml, hown, hts⟩, hr, hlk, hU, hg, rfl⟩ := C
  unfold ldR at h
  split at h
  · cases h
  · rename_i hi
    have h3 : ∀ j, j < 8 → kd (10 + j) = 3 := by decide +kernel
    have h8 : i.toNatClampNeg < 8 := Nat.not_le.mp (fun q => hi (Or.inr q))
    exact fun ls H locs hl hP hS => va_aldq (D := g.1) (f := fun i => some (g.2.2 (10 + i))) hx hb hU.1 hP 44 2 (by rw [wd_get (by omega), en_r rfl]) rfl hi hd (kk _ (h3 _ h8) h ls H locs hl hP hS)
theorem k_iast (C : kX g l R own cc nL rt o σe WK) {a n : Nat} {i v : Int32} {f : St → Option ρ} {r : ρ} (hk : kd a = 10) (hn : ln a = n) (hd : decode cc pc = .ok (.iastore, 1)) (h : stA σ a n i v f = some r) (kk : ∀ σ', f σ' = some r → WK (pc + 1) lv st σ') : WK pc lv (.int v :: .int i :: .ref (g.2.2 a) :: st) σ := by
  obtain ⟨p, ev, s, m, args, below, meth, c, ⟨hx, hb, hml, hown, hts⟩, hr, hlk, hU, hg, rfl⟩ := C
  unfold stA at h
  split at h
  · cases h
  · rename_i hi
    intro ls H locs hl hP hS
    have h67 : a < 67 := kd_lt hk (by omega)
    refine va_iast (D := g.1) hx hb hU.1 hP (wd_D hg) hS a 0 (by rw [wd_get h67, en_i hk, hn]) rfl hi hd (fun H1 locs1 hP1 hD1 hS1 => ?_)
    rw [wd_set (σ' := pA σ a i.toNatClampNeg v) h67 (by rw [en_i hk, hn]; show (Sum.inl (_, _, Sum.inl (fu σ.2.1 a _ a)) : va_E) = _; rw [fu_s]) (fun j hj => en_pA_n hj)] at hP1
    exact kk _ h ls H1 locs1 hl hP1 hS1
theorem k_last (C : kX g l R own cc nL rt o σe WK) {a n : Nat} {i : Int32} {v : Int64} {f : St → Option ρ} {r : ρ} (hk : kd a = 11) (hn : ln a = n) (hd : decode cc pc = .ok (.lastore, 1)) (h : stL σ a n i v f = some r) (kk : ∀ σ', f σ' = some r → WK (pc + 1) lv st σ') : WK pc lv (.long v :: .int i :: .ref (g.2.2 a) :: st) σ := by
  obtain ⟨p, ev, s, m, args, below, meth, c, ⟨hx, hb, hml, hown, hts⟩, hr, hlk, hU, hg, rfl⟩ := C
  unfold stL at h
  split at h
  · cases h
  · rename_i hi
    intro ls H locs hl hP hS
    have h67 : a < 67 := kd_lt hk (by omega)
    refine va_last (D := g.1) hx hb hU.1 hP (wd_D hg) hS a 1 (by rw [wd_get h67, en_l hk, hn]) rfl hi hd (fun H1 locs1 hP1 hD1 hS1 => ?_)
    rw [wd_set (σ' := pL σ a i.toNatClampNeg v) h67 (by rw [en_l hk, hn]; show (Sum.inl (_, _, Sum.inr (Sum.inl (fu σ.2.2.1 a _ a))) : va_E) = _; rw [fu_s]) (fun j hj => en_pL_n hj)] at hP1
    exact kk _ h ls H1 locs1 hl hP1 hS1
theorem k_alenI (C : kX g l R own cc nL rt o σe WK) {a n : Nat} {v : Int32} (hk : kd a = 10) (hn : ln a = n) (hv : Int32.ofNat n = v) (hd : decode cc pc = .ok (.arraylength, 1)) (kk : WK (pc + 1) lv (.int v :: st) σ) : WK pc lv (.ref (g.2.2 a) :: st) σ := by
  obtain ⟨p, ev, s, m, args, below, meth, c, ⟨hx, hb, hml, hown, hts⟩, hr, hlk, hU, hg, rfl⟩ := C
  exact fun ls H locs hl hP hS => va_alen (D := g.1) hx hb hU.1 hP a 0 (by rw [wd_get (kd_lt hk (by omega)), en_i hk, hn]) (ty := .int) rfl hv hd (kk ls H locs hl hP hS)
theorem k_alenL (C : kX g l R own cc nL rt o σe WK) {a n : Nat} {v : Int32} (hk : kd a = 11) (hn : ln a = n) (hv : Int32.ofNat n = v) (hd : decode cc pc = .ok (.arraylength, 1)) (kk : WK (pc + 1) lv (.int v :: st) σ) : WK pc lv (.ref (g.2.2 a) :: st) σ := by
  obtain ⟨p, ev, s, m, args, below, meth, c, ⟨hx, hb, hml, hown, hts⟩, hr, hlk, hU, hg, rfl⟩ := C
  exact fun ls H locs hl hP hS => va_alen (D := g.1) hx hb hU.1 hP a 1 (by rw [wd_get (kd_lt hk (by omega)), en_l hk, hn]) (ty := .long) rfl hv hd (kk ls H locs hl hP hS)
theorem k_alenR (C : kX g l R own cc nL rt o σe WK) {v : Int32} (hv : Int32.ofNat 8 = v) (hd : decode cc pc = .ok (.arraylength, 1)) (kk : WK (pc + 1) lv (.int v :: st) σ) : WK pc lv (.ref (g.2.2 44) :: st) σ := by
  obtain ⟨p, ev, s, m, args, below, meth, c, ⟨hx, hb, hml, hown, hts⟩, hr, hlk, hU, hg, rfl⟩ := C
  exact fun ls H locs hl hP hS => va_alen (D := g.1) hx hb hU.1 hP 44 2 (by rw [wd_get (by omega), en_r rfl]) (ty := .object RX5) rfl hv hd (kk ls H locs hl hP hS)
theorem k_mmax (C : kX g l R own cc nL rt o σe WK) {x y : Int32} {i : Nat} (h1 : Cond.methodLink own i Lib.Math.max.name ∈ WS) (h2 : Cond.static Lib.Math.max.name ∈ WS) (h3 : Cond.initialized "java/lang/Math" ∈ WS) (h4 : Cond.code Lib.Math.max.name Lib.Math.max.code 2 (some .int) ∈ WS) (hf : 1 ≤ R.frames) (hlo : (st.map fun v => v.category).sum + 13 ≤ R.locals) (hd : decode cc pc = .ok (.invokestatic i, 3)) (k : WK (pc + 3) lv (.int (if x < y then y else x) :: st) σ) : WK pc lv (.int y :: .int x :: st) σ := by
  obtain ⟨p, ev, s, m, args, below, meth, c, ⟨hx, hb, hml, hown, hts⟩, hr, hlk, hU, hg, rfl⟩ := C
  exact fun ls H locs hl hP hS => va_mmax hx hb (hml.trans hl.1.symm) hown (hts _ h1) (hts _ h2) (hts _ h3) (hts _ h4) hf hlo (Nat.zero_le _) (Nat.zero_le _) hd (k ls H locs hl hP hS)
theorem k_mmin (C : kX g l R own cc nL rt o σe WK) {x y : Int32} {i : Nat} (h1 : Cond.methodLink own i Lib.Math.min.name ∈ WS) (h2 : Cond.static Lib.Math.min.name ∈ WS) (h3 : Cond.initialized "java/lang/Math" ∈ WS) (h4 : Cond.code Lib.Math.min.name Lib.Math.min.code 2 (some .int) ∈ WS) (hf : 1 ≤ R.frames) (hlo : (st.map fun v => v.category).sum + 13 ≤ R.locals) (hd : decode cc pc = .ok (.invokestatic i, 3)) (k : WK (pc + 3) lv (.int (if y < x then y else x) :: st) σ) : WK pc lv (.int y :: .int x :: st) σ := by
  obtain ⟨p, ev, s, m, args, below, meth, c, ⟨hx, hb, hml, hown, hts⟩, hr, hlk, hU, hg, rfl⟩ := C
  exact fun ls H locs hl hP hS => va_mmin hx hb (hml.trans hl.1.symm) hown (hts _ h1) (hts _ h2) (hts _ h3) (hts _ h4) hf hlo (Nat.zero_le _) (Nat.zero_le _) hd (k ls H locs hl hP hS)
theorem k_mabs (C : kX g l R own cc nL rt o σe WK) {x : Int32} {i : Nat} (h1 : Cond.methodLink own i Lib.Math.abs.name ∈ WS) (h2 : Cond.static Lib.Math.abs.name ∈ WS) (h3 : Cond.initialized "java/lang/Math" ∈ WS) (h4 : Cond.code Lib.Math.abs.name Lib.Math.abs.code 1 (some .int) ∈ WS) (hf : 1 ≤ R.frames) (hlo : (st.map fun v => v.category).sum + 13 ≤ R.locals) (hd : decode cc pc = .ok (.invokestatic i, 3)) (k : WK (pc + 3) lv (.int (if 0 ≤ x then x else 0 - x) :: st) σ) : WK pc lv (.int x :: st) σ := by
  obtain ⟨p, ev, s, m, args, below, meth, c, ⟨hx, hb, hml, hown, hts⟩, hr, hlk, hU, hg, rfl⟩ := C
  exact fun ls H locs hl hP hS => va_mabs hx hb (hml.trans hl.1.symm) hown (hts _ h1) (hts _ h2) (hts _ h3) (hts _ h4) hf hlo (Nat.zero_le _) (Nat.zero_le _) hd (k ls H locs hl hP hS)
theorem k_copyL (C : kX g l R own cc nL rt o σe WK) {i a n b q : Nat} {sp dp k : Int32} {f : St → Option ρ} {r : ρ} (h1 : Cond.methodLink own i arraycopyName ∈ WS) (h2 : Cond.native arraycopyName ∈ WS) (h3 : Cond.static arraycopyName ∈ WS) (h4 : Cond.initialized "java/lang/System" ∈ WS) (hka : kd a = 11) (hna : ln a = n) (hkb : kd b = 11) (hnb : ln b = q) (hf : 1 ≤ R.frames) (hlo : (st.map fun v => v.category).sum + (nativeFrameWords "java/lang/System" "arraycopy" 5 + 11) ≤ R.locals) (hd : decode cc pc = .ok (.invokestatic i, 3)) (h : cpL σ a n sp b q dp k f = some r) (kk : ∀ σ', f σ' = some r → WK (pc + 3) lv st σ') : WK pc lv (.int k :: .int dp :: .ref (g.2.2 b) :: .int sp :: .ref (g.2.2 a) :: st) σ := by
  obtain ⟨p, ev, s, m, args, below, meth, c, ⟨hx, hb, hml, hown, hts⟩, hr, hlk, hU, hg, rfl⟩ := C
  unfold cpL at h
  split at h
  · cases h
  · rename_i hi
    simp only [not_or, Nat.not_lt] at hi
    obtain ⟨i1, i2, i3, i4, i5⟩ := hi
    intro ls H locs hl hP hS
    have h67 : b < 67 := kd_lt hkb (by omega)
    refine va_copyl (D := g.1) (ty := .long) hx hb (hml.trans hl.1.symm) hown (hts _ h1) (hts _ h2) (hts _ h3) (hts _ h4) hU.1 hP (wd_D hg) hS a b 1 1 (by rw [wd_get (kd_lt hka (by omega)), en_l hka, hna]) (by rw [wd_get h67, en_l hkb, hnb]) rfl rfl rfl i1 i2 i3 i4 i5 (fun _ _ => rfl) hf hlo hd (fun H1 locs1 hP1 hD1 hS1 => ?_)
    rw [wd_set (σ' := sL σ b (va_cpy (σ.2.2.1 a) (σ.2.2.1 b) sp.toNatClampNeg dp.toNatClampNeg k.toNatClampNeg)) h67 (by rw [en_l hkb, hnb]; show (Sum.inl (_, _, Sum.inr (Sum.inl (fu σ.2.2.1 b _ b))) : va_E) = _; rw [fu_s]) (fun j hj => en_sL_n hj)] at hP1
    exact kk _ h ls H1 locs1 hl hP1 hS1
theorem k_iret {x v : Int32} (C : kX g l R own cc nL (some .int) (some (.int v)) σe WK) (hd : decode cc pc = .ok (.ireturn, 1)) (h : some (x, σ) = some (v, σe)) : WK pc lv [.int x] σ := by
  obtain ⟨p, ev, s, m, args, below, meth, c, ⟨hx, hb, hml, hown, hts⟩, hr, hlk, hU, hg, rfl⟩ := C
  cases h
  exact fun ls H locs hl hP hS => W.iret hx hb hr (fun t ht hW => ⟨⟨rfl, by rw [ht]; exact hP⟩, hS.F ht⟩) hS.2.2 hd hlk
theorem k_lret {x v : Int64} (C : kX g l R own cc nL (some .long) (some (.long v)) σe WK) (hd : decode cc pc = .ok (.lreturn, 1)) (h : some (x, σ) = some (v, σe)) : WK pc lv [.long x] σ := by
  obtain ⟨p, ev, s, m, args, below, meth, c, ⟨hx, hb, hml, hown, hts⟩, hr, hlk, hU, hg, rfl⟩ := C
  cases h
  exact fun ls H locs hl hP hS => W.lret hx hb hr (fun t ht hW => ⟨⟨rfl, by rw [ht]; exact hP⟩, hS.F ht⟩) hS.2.2 hd hlk
theorem k_zret {x v : Int32} (C : kX g l R own cc nL (some .boolean) (some (.int v)) σe WK) (hd : decode cc pc = .ok (.ireturn, 1)) (h : rz x σ = some (v, σe)) : WK pc lv [.int x] σ := by
  obtain ⟨p, ev, s, m, args, below, meth, c, ⟨hx, hb, hml, hown, hts⟩, hr, hlk, hU, hg, rfl⟩ := C
  unfold rz at h
  split at h
  · rename_i hx2
    cases h
    exact fun ls H locs hl hP hS => W.zret hx hb hr (by rcases hx2 with rfl | rfl <;> rfl) (fun t ht hW => ⟨⟨rfl, by rw [ht]; exact hP⟩, hS.F ht⟩) hS.2.2 hd hlk
  · cases h
theorem k_vret (C : kX g l R own cc nL none none σe WK) (hd : decode cc pc = .ok (.return_, 1)) (h : some σ = some σe) : WK pc lv [] σ := by
  obtain ⟨p, ev, s, m, args, below, meth, c, ⟨hx, hb, hml, hown, hts⟩, hr, hlk, hU, hg, rfl⟩ := C
  cases h
  exact fun ls H locs hl hP hS => W.vret hx hb hr (fun t ht hW => ⟨⟨rfl, by rw [ht]; exact hP⟩, hS.F ht⟩) hS.2.2 hd hlk
theorem k_aret {x v : Nat} {N : String} (C : kX g l R own cc nL (some (.object N)) (some (.ref (g.2.2 v))) σe WK) (hd : decode cc pc = .ok (.areturn, 1)) (h : some (x, σ) = some (v, σe)) : WK pc lv [.ref (g.2.2 x)] σ := by
  obtain ⟨p, ev, s, m, args, below, meth, c, ⟨hx, hb, hml, hown, hts⟩, hr, hlk, hU, hg, rfl⟩ := C
  cases h
  exact fun ls H locs hl hP hS => W.aret hx hb hr (Or.inl ⟨_, rfl⟩) (Or.inr ⟨_, rfl⟩) (fun t ht hW => ⟨⟨rfl, by rw [ht]; exact hP⟩, hS.F ht⟩) hS.2.2 hd hlk
theorem k_fin {p : Program} {e : Env} {s : State} {m : MethodId} {args : Array Value} {below : List Frame} {meth : Method} {c : Code} {H : Heap} {locs : List Loc} {ls : Array Slot} {stk a : List Value} {oo : Option Value} {σ' : St} {Q : State → Prop} (hS : va_S (aA g s.heap.size) s.heap H locs) (run : va_Run p l e R s m args below meth c H locs 0 0 0 0 (F0 m pc ls stk) st (kQ g oo σ' (aA g H.size) a.toArray) (aA g H.size))
    (k : ∀ (H : Heap) (locs : List Loc), va_P g.1 vwCl (wd g σ') H → va_S (aA g s.heap.size) s.heap H locs → W p l e R s m args below meth c H locs 0 0 Q (F0 m (pc + 3) ls (oo.toList ++ st))) : W p l e R s m args below meth c H locs 0 0 Q (F0 m pc ls stk) := by
  have hA : ∀ q, aA g H.size q → aA g s.heap.size q := fun q h => h.elim Or.inl (fun h => Or.inr (Nat.le_trans hS.1 h))
  intro T hT X
  obtain ⟨v, st₀, t, T', L, h0, X', hL, e1, e2, ⟨⟨hv, hP'⟩, hz, hk⟩, go⟩ := run T hT X
  cases hv
  rw [h0] at hz hk
  obtain ⟨t2, a1, b1⟩ := k T'.heap (locs ++ L) (by rw [e1]; exact hP')
    ⟨Nat.le_trans hS.1 (by rw [e1]; exact hz), fun q h1 h2 => by rw [e1, hk q (Nat.lt_of_lt_of_le h1 hS.1) (fun z => h2 (hA q z))]; exact hS.2.1 q h1 h2, fun q hq => by
      rcases List.mem_append.mp hq with h | h
      · exact hS.2.2 q h
      · exact hA _ (hL q h)⟩ T' rfl X'
  exact ⟨t2, go t2 a1, b1⟩
theorem k_cv {y : MethodName} {rm : Room} {bytes : ByteArray} {maxL n idx ci ob : Nat} {ret : Option FieldType} {D : String} {T : u_T} {N : Nat} {As stk : List Value} {oo : Option Value} {σ' : St} (C : kX g l R own cc nL rt o σe WK) (hM : Mc l g y bytes maxL ret rm (.ref (g.2.2 ob) :: As) σ oo σ') (h1 : Cond.methodLink own idx y ∈ WS) (h2 : Cond.instanceMethod y ∈ WS) (h3 : Cond.selects D y y ∈ WS) (h4 : Cond.initialized D ∈ WS) (h5 : Cond.code y bytes maxL ret ∈ WS) (hrc : rm.cells = 0) (hrs : rm.slots = 0)
    (hd2 : y.cls = D ∧ y.cls ≠ "java/lang/invoke/MethodHandle" ∧ y.cls ≠ "java/lang/invoke/VarHandle" ∧ (parseMethodDescriptor y.desc).map (fun d => d.parameters.length) = some n) (hR : rm.frames + 1 ≤ R.frames ∧ 8 + (maxL + 11) + rm.locals ≤ R.locals) (hk : kd ob = ci) (hci : ci < 10) (hc : vwCl[ci]? = some (D, T, N)) (hn : As.length = n) (hs : stk = As.reverse ++ .ref (g.2.2 ob) :: st) (hroom : (st.map fun v => v.category).sum ≤ 8)
    (hdg : decode cc pc = .ok (.invokevirtual idx, 3)) (k : WK (pc + 3) lv (oo.toList ++ st) σ') : WK pc lv stk σ := by
  obtain ⟨p, ev, s, m, args, below, meth, c, ⟨hx, hb, hml, hown, hts⟩, hr, hlk, hU, hg, rfl⟩ := C
  intro ls H locs hl hP hS
  exact k_fin (a := .ref (g.2.2 ob) :: As) hS (va_runV ⟨hx, hb, hml, hown, hts⟩ (hM H.size) (cwV n hts (gV h1 h2 h3 h4 h5) rfl hrc hrs hd2 hR) ⟨kP_blind, va_recv (q := (D, T, N)) hU.1 hP (q0 := ob) hc (by rw [wd_get (kd_lt hk (by omega)), en_o hk hci]), fun U hU2 hW => ⟨rfl, by rw [hU2], by rw [hU2]; exact hP, wU_warm hU hW⟩⟩ rfl hn hl.1 hs (lv_room hroom) hdg ⟨Nat.zero_le _, Nat.zero_le _⟩) (fun H1 locs1 hP1 hS1 => k ls H1 locs1 hl hP1 hS1)
theorem k_cs {y : MethodName} {rm : Room} {bytes : ByteArray} {maxL n idx : Nat} {ret : Option FieldType} {As stk : List Value} {oo : Option Value} {σ' : St} (C : kX g l R own cc nL rt o σe WK) (hM : Mc l g y bytes maxL ret rm As σ oo σ') (h1 : Cond.methodLink own idx y ∈ WS) (h2 : Cond.static y ∈ WS) (h4 : Cond.initialized y.cls ∈ WS) (h5 : Cond.code y bytes maxL ret ∈ WS) (hrc : rm.cells = 0) (hrs : rm.slots = 0)
    (hd2 : y.cls ≠ "java/lang/invoke/MethodHandle" ∧ y.cls ≠ "java/lang/invoke/VarHandle" ∧ (parseMethodDescriptor y.desc).map (fun d => d.parameters.length) = some n) (hR : rm.frames + 1 ≤ R.frames ∧ 8 + (maxL + 11) + rm.locals ≤ R.locals) (hn : As.length = n) (hs : stk = As.reverse ++ st) (hroom : (st.map fun v => v.category).sum ≤ 8)
    (hdg : decode cc pc = .ok (.invokestatic idx, 3)) (k : WK (pc + 3) lv (oo.toList ++ st) σ') : WK pc lv stk σ := by
  obtain ⟨p, ev, s, m, args, below, meth, c, ⟨hx, hb, hml, hown, hts⟩, hr, hlk, hU, hg, rfl⟩ := C
  intro ls H locs hl hP hS
  exact k_fin (a := As) hS (va_runS ⟨hx, hb, hml, hown, hts⟩ (hM H.size) (va_cwS n hts (gS h1 h2 h4 h5) rfl hrc hrs hd2 hR) ⟨kP_blind, fun U hU2 hW => ⟨rfl, by rw [hU2], by rw [hU2]; exact hP, wU_warm hU hW⟩⟩ rfl hn hl.1 hs (lv_room hroom) hdg ⟨Nat.zero_le _, Nat.zero_le _⟩) (fun H1 locs1 hP1 hS1 => k ls H1 locs1 hl hP1 hS1)
theorem k_cn {y : MethodName} {host : String} {rm : Room} {bytes : ByteArray} {maxL n idx : Nat} {ret : Option FieldType} {As stk : List Value} {oo : Option Value} {σ' : St} (C : kX g l R own cc nL rt o σe WK) (hM : Mc l g y bytes maxL ret rm As σ oo σ') (h5 : Cond.code y bytes maxL ret ∈ WS) (hrc : rm.cells = 0) (hrs : rm.slots = 0) (hq : (own, idx, y, host) ∈ nws) (hst : Cond.static y ∈ WS) (hini : Cond.initialized y.cls ∈ WS)
    (hd2 : y.cls ≠ "java/lang/invoke/MethodHandle" ∧ y.cls ≠ "java/lang/invoke/VarHandle" ∧ (parseMethodDescriptor y.desc).map (fun d => d.parameters.length) = some n) (hR : rm.frames + 1 ≤ R.frames ∧ 8 + (maxL + 11) + rm.locals ≤ R.locals) (hn : As.length = n) (hs : stk = As.reverse ++ st) (hroom : (st.map fun v => v.category).sum ≤ 8)
    (hdg : decode cc pc = .ok (.invokestatic idx, 3)) (k : WK (pc + 3) lv (oo.toList ++ st) σ') : WK pc lv stk σ := by
  obtain ⟨p, ev, s, m, args, below, meth, c, ⟨hx, hb, hml, hown, hts⟩, hr, hlk, hU, hg, rfl⟩ := C
  intro ls H locs hl hP hS
  exact k_fin (a := As) hS (va_runSN ⟨hx, hb, hml, hown, hts⟩ (hM H.size) ⟨va_cnB n hts (gN h5) rfl hrc hrs (hU.2 _ hq) (hts _ hini) hd2 hR, hts _ hst, trivial⟩ ⟨kP_blind, fun U hU2 hW => ⟨rfl, by rw [hU2], by rw [hU2]; exact hP, wU_warm hU hW⟩⟩ rfl hn hl.1 hs (lv_room hroom) hdg ⟨Nat.zero_le _, Nat.zero_le _⟩) (fun H1 locs1 hP1 hS1 => k ls H1 locs1 hl hP1 hS1)
end KR
end
section
/-! programs of the methods over the state, by program out of the bytecode -/
def mX10_isCell (a0 : Int64) (s0 : St) : Option (Int32 × St) := if (lg_cmp a0 (0 : Int64)) < 0 then (rz (0 : Int32) s0) else (if 0 ≤ (lg_cmp a0 (36 : Int64)) then (rz (0 : Int32) s0) else (rz (1 : Int32) s0))
def mX2_heightOf (a0 : Int32) (a1 : Int32) (s0 : St) : Option (Int32 × St) := if a0 = (2 : Int32) then (some ((2 : Int32), s0)) else (if a0 = (3 : Int32) then (some (((2 : Int32) + a1), s0)) else (if a0 = (4 : Int32) then (some ((((2 : Int32) + a1) / (2 : Int32)), s0)) else (if a0 = (6 : Int32) then (some ((1 : Int32), s0)) else (some ((0 : Int32), s0)))))
def mX3_heightAt (o0 : Nat) (a1 : Int32) (s0 : St) : Option (Int32 × St) := cl2 (mX10_isCell (a1.toInt64) s0) (fun x2 s1 => if x2 = 0 then (some ((0 : Int32), s1)) else (ldA s1 (o0 + 3) 36 a1 (fun x3 => ldA s1 (o0 + 6) 36 a1 (fun x4 => cl2 (mX2_heightOf x3 x4 s1) (fun x6 s5 => some (x6, s5))))))
def mX7_apart (a0 : Int32) (a1 : Int32) (s0 : St) : Option (Int32 × St) := some (((if 0 ≤ ((a0 / (6 : Int32)) - (a1 / (6 : Int32))) then ((a0 / (6 : Int32)) - (a1 / (6 : Int32))) else 0 - ((a0 / (6 : Int32)) - (a1 / (6 : Int32)))) + (if 0 ≤ ((a0 - a0 / (6 : Int32) * (6 : Int32)) - (a1 - a1 / (6 : Int32) * (6 : Int32))) then ((a0 - a0 / (6 : Int32) * (6 : Int32)) - (a1 - a1 / (6 : Int32) * (6 : Int32))) else 0 - ((a0 - a0 / (6 : Int32) * (6 : Int32)) - (a1 - a1 / (6 : Int32) * (6 : Int32))))), s0)
def mX0_bound_56 (J14 : Int64 → Int32 → St → Option St) (y8 : Int64) (y9 : Int32) (s10 : St) : Option St := J14 y8 ((y9 + 1)) s10
def mX0_bound_14 (y1 : Int32) (J2 : Int32 → St → Option St) (a1 : Int32) (a2 : Int32) (J14 : Int64 → Int32 → St → Option St) (y3 : Int64) (y4 : Int32) (s5 : St) : Option St := if (36 : Int32) ≤ y4 then (stL s5 31 36 y1 y3 (fun s6 => J2 ((y1 + 1)) s6)) else (ldA s5 30 1296 ((y1 * (36 : Int32)) + y4) (fun x7 => kl (mX0_bound_56 J14) (fun J56 => if x7 < a1 then (J56 y3 y4 s5) else (if a2 < x7 then (J56 y3 y4 s5) else (kl ((y3 ||| ((1 : Int64) <<< (y4.toInt64 &&& 63)))) (fun x11 => J56 x11 y4 s5))))))
def mX0_bound_2 (a1 : Int32) (a2 : Int32) (J2 : Int32 → St → Option St) (y1 : Int32) (s2 : St) : Option St := if (36 : Int32) ≤ y1 then (some s2) else (kl (lp (fun _ _ _ => none) (mX0_bound_14 y1 J2 a1 a2) 2000) (fun J14 => J14 (0 : Int64) (0 : Int32) s2))
def mX0_bound (a1 : Int32) (a2 : Int32) (s0 : St) : Option St := kl (lp (fun _ _ => none) (mX0_bound_2 a1 a2) 2000) (fun J2 => J2 (0 : Int32) s0)
def mX2_isOpen_47 (s1 : St) : Option (Int32 × St) := rz (1 : Int32) s1
def mX2_isOpen (a0 : Int32) (a1 : Int32) (a2 : Int32) (s0 : St) : Option (Int32 × St) := if a0 = (3 : Int32) then (if a2 = 0 then (rz (1 : Int32) s0) else (rz (0 : Int32) s0)) else (if a0 = (4 : Int32) then (kl (mX2_isOpen_47) (fun J47 => if a1 ≤ (4 : Int32) then (J47 s0) else (if a2 = 0 then (J47 s0) else (rz (0 : Int32) s0)))) else (if a0 = (5 : Int32) then (if a2 = (1 : Int32) then (rz (1 : Int32) s0) else (rz (0 : Int32) s0)) else (rz (1 : Int32) s0)))
def mX3_isOpen (o0 : Nat) (a1 : Int32) (s0 : St) : Option (Int32 × St) := cl2 (mX10_isCell (a1.toInt64) s0) (fun x2 s1 => if x2 = 0 then (rz (0 : Int32) s1) else (ldA s1 (o0 + 3) 36 a1 (fun x3 => ldA s1 (o0 + 6) 36 a1 (fun x4 => kl (gI s1 o0 2) (fun x5 => cl2 (mX2_isOpen x3 x4 x5 s1) (fun x7 s6 => if x7 = 0 then (rz (0 : Int32) s6) else (rz (1 : Int32) s6)))))))
def mX7_bit (a0 : Int32) (s0 : St) : Option (Int64 × St) := if a0 < 0 then (some ((0 : Int64), s0)) else (if (36 : Int32) ≤ a0 then (some ((0 : Int64), s0)) else (some (((1 : Int64) <<< (a0.toInt64 &&& 63)), s0)))
def mX3_openCells_25 (J4 : Int64 → Int32 → St → Option (Int64 × St)) (y6 : Int64) (y7 : Int32) (s8 : St) : Option (Int64 × St) := J4 y6 ((y7 + 1)) s8
def mX3_openCells_4 (o0 : Nat) (J4 : Int64 → Int32 → St → Option (Int64 × St)) (y1 : Int64) (y2 : Int32) (s3 : St) : Option (Int64 × St) := if (36 : Int32) ≤ y2 then (some (y1, s3)) else (cl2 (mX3_isOpen o0 y2 s3) (fun x5 s4 => kl (mX3_openCells_25 J4) (fun J25 => if x5 = 0 then (J25 y1 y2 s4) else (cl2 (mX7_bit y2 s4) (fun x10 s9 => kl ((y1 ||| x10)) (fun x11 => J25 x11 y2 s9))))))
def mX3_openCells (o0 : Nat) (s0 : St) : Option (Int64 × St) := kl (lp (fun _ _ _ => none) (mX3_openCells_4 o0) 2000) (fun J4 => J4 (0 : Int64) (0 : Int32) s0)
def mX7_has (a0 : Int64) (a2 : Int32) (s0 : St) : Option (Int32 × St) := cl2 (mX7_bit a2 s0) (fun x2 s1 => if (lg_cmp (a0 &&& x2) (0 : Int64)) = 0 then (rz (0 : Int32) s1) else (rz (1 : Int32) s1))
def mX0_admit_33 (y1 : Int32) (J2 : Int32 → St → Option St) (y5 : Int64) (s6 : St) : Option St := stL s6 32 36 y1 y5 (fun s7 => J2 ((y1 + 1)) s7)
def mX0_admit_2 (a1 : Int64) (J2 : Int32 → St → Option St) (y1 : Int32) (s2 : St) : Option St := if (36 : Int32) ≤ y1 then (some s2) else (cl2 (mX7_has a1 y1 s2) (fun x4 s3 => kl (mX0_admit_33 y1 J2) (fun J33 => if x4 = 0 then (J33 (0 : Int64) s3) else (ldL s3 31 36 y1 (fun x8 => J33 ((x8 &&& a1)) s3)))))
def mX0_admit (a1 : Int64) (s0 : St) : Option St := kl (lp (fun _ _ => none) (mX0_admit_2 a1) 2000) (fun J2 => J2 (0 : Int32) s0)
def mX0_lay_35 (J27 : Int32 → St → Option St) (y3 : Int32) (J35 : Int32 → St → Option St) (y11 : Int32) (s12 : St) : Option St := if (36 : Int32) ≤ y11 then (J27 ((y3 + 1)) s12) else (ldA s12 29 36 y3 (fun x13 => ldA s12 29 36 y11 (fun x14 => kl ((if 0 ≤ (x13 - x14) then (x13 - x14) else 0 - (x13 - x14))) (fun x15 => cl2 (mX7_apart y3 y11 s12) (fun x17 s16 => stA s16 30 1296 ((y3 * (36 : Int32)) + y11) (x17 + (x15 / (2 : Int32))) (fun s18 => J35 ((y11 + 1)) s18))))))
def mX0_lay_27 (o1 : Nat) (J27 : Int32 → St → Option St) (y3 : Int32) (s4 : St) : Option St := if (36 : Int32) ≤ y3 then (kl (gI s4 o1 3) (fun x5 => kl (gI s4 o1 4) (fun x6 => cl1 (mX0_bound x5 x6 s4) (fun s7 => cl2 (mX3_openCells o1 s7) (fun x9 s8 => cl1 (mX0_admit x9 s8) (fun s10 => some s10)))))) else (kl (lp (fun _ _ => none) (mX0_lay_35 J27 y3) 2000) (fun J35 => J35 (0 : Int32) s4))
def mX0_lay_2 (o1 : Nat) (J2 : Int32 → St → Option St) (y1 : Int32) (s2 : St) : Option St := if (36 : Int32) ≤ y1 then (kl (lp (fun _ _ => none) (mX0_lay_27 o1) 2000) (fun J27 => J27 (0 : Int32) s2)) else (cl2 (mX3_heightAt o1 y1 s2) (fun x20 s19 => stA s19 29 36 y1 x20 (fun s21 => J2 ((y1 + 1)) s21)))
def mX0_lay (o1 : Nat) (s0 : St) : Option St := kl (lp (fun _ _ => none) (mX0_lay_2 o1) 2000) (fun J2 => J2 (0 : Int32) s0)
def mX0_nearOf (a1 : Int32) (s0 : St) : Option (Int64 × St) := cl2 (mX10_isCell (a1.toInt64) s0) (fun x2 s1 => if x2 = 0 then (some ((0 : Int64), s1)) else (ldL s1 31 36 a1 (fun x3 => some (x3, s1))))
def mX0_isPair (a1 : Int32) (a2 : Int32) (s0 : St) : Option (Int32 × St) := cl2 (mX10_isCell (a1.toInt64) s0) (fun x2 s1 => if x2 = 0 then (rz (0 : Int32) s1) else (ldL s1 32 36 a1 (fun x3 => cl2 (mX7_has x3 a2 s1) (fun x5 s4 => if x5 = 0 then (rz (0 : Int32) s4) else (rz (1 : Int32) s4)))))
def mJ13_bitCount_95d88 (a0 : Int64) (s0 : St) : Option (Int32 × St) := kl ((a0 - (((a0.toUInt64 >>> ((1 : Int32).toInt64.toUInt64 &&& Int64.toUInt64 63)).toInt64) &&& (6148914691236517205 : Int64)))) (fun x1 => kl (((x1 &&& (3689348814741910323 : Int64)) + (((x1.toUInt64 >>> ((2 : Int32).toInt64.toUInt64 &&& Int64.toUInt64 63)).toInt64) &&& (3689348814741910323 : Int64)))) (fun x2 => kl (((x2 + ((x2.toUInt64 >>> ((4 : Int32).toInt64.toUInt64 &&& Int64.toUInt64 63)).toInt64)) &&& (1085102592571150095 : Int64))) (fun x3 => kl ((x3 + ((x3.toUInt64 >>> ((8 : Int32).toInt64.toUInt64 &&& Int64.toUInt64 63)).toInt64))) (fun x4 => kl ((x4 + ((x4.toUInt64 >>> ((16 : Int32).toInt64.toUInt64 &&& Int64.toUInt64 63)).toInt64))) (fun x5 => kl ((x5 + ((x5.toUInt64 >>> ((32 : Int32).toInt64.toUInt64 &&& Int64.toUInt64 63)).toInt64))) (fun x6 => some ((x6.toInt32 &&& (127 : Int32)), s0)))))))
def mX0_bitsOf_4 (o0 : Nat) (J4 : Int32 → Int32 → St → Option (Int32 × St)) (y1 : Int32) (y2 : Int32) (s3 : St) : Option (Int32 × St) := if (Int32.ofNat (ln o0)) ≤ y2 then (some (y1, s3)) else (ldL s3 o0 (ln o0) y2 (fun x4 => cl2 (mJ13_bitCount_95d88 x4 s3) (fun x6 s5 => kl ((y1 + x6)) (fun x7 => J4 x7 ((y2 + 1)) s5))))
def mX0_bitsOf (o0 : Nat) (s0 : St) : Option (Int32 × St) := kl (lp (fun _ _ _ => none) (mX0_bitsOf_4 o0) 2000) (fun J4 => J4 (0 : Int32) (0 : Int32) s0)
def mX0_pairsInAll  (s0 : St) : Option (Int32 × St) := cl2 (mX0_bitsOf 32 s0) (fun x2 s1 => some (x2, s1))
def mX0_pairAt_49 (J13 : Int32 → Int32 → St → Option (Int32 × St)) (y10 : Int32) (y11 : Int32) (s12 : St) : Option (Int32 × St) := J13 y10 ((y11 + 1)) s12
def mX0_pairAt_13 (J4 : Int32 → Int32 → St → Option (Int32 × St)) (y2 : Int32) (J13 : Int32 → Int32 → St → Option (Int32 × St)) (y4 : Int32) (y5 : Int32) (s6 : St) : Option (Int32 × St) := if (36 : Int32) ≤ y5 then (J4 y4 ((y2 + 1)) s6) else (ldL s6 32 36 y2 (fun x7 => cl2 (mX7_has x7 y5 s6) (fun x9 s8 => kl (mX0_pairAt_49 J13) (fun J49 => if x9 = 0 then (J49 y4 y5 s8) else (if y4 = 0 then (some ((((100 : Int32) * y2) + y5), s8)) else (J49 ((y4 + (-1))) y5 s8))))))
def mX0_pairAt_4 (J4 : Int32 → Int32 → St → Option (Int32 × St)) (y1 : Int32) (y2 : Int32) (s3 : St) : Option (Int32 × St) := if (36 : Int32) ≤ y2 then (some ((-4 : Int32), s3)) else (kl (lp (fun _ _ _ => none) (mX0_pairAt_13 J4 y2) 2000) (fun J13 => J13 y1 (0 : Int32) s3))
def mX0_pairAt (a1 : Int32) (s0 : St) : Option (Int32 × St) := kl (lp (fun _ _ _ => none) (mX0_pairAt_4) 2000) (fun J4 => J4 a1 (0 : Int32) s0)
def mX0_farsInAll_50 (J13 : Int64 → Int32 → St → Option (Int64 × St)) (y10 : Int64) (y11 : Int32) (s12 : St) : Option (Int64 × St) := J13 y10 ((y11 + 1)) s12
def mX0_farsInAll_13 (J4 : Int64 → Int32 → St → Option (Int64 × St)) (y2 : Int32) (J13 : Int64 → Int32 → St → Option (Int64 × St)) (y4 : Int64) (y5 : Int32) (s6 : St) : Option (Int64 × St) := if (36 : Int32) ≤ y5 then (J4 y4 ((y2 + 1)) s6) else (ldL s6 32 36 y2 (fun x7 => cl2 (mX7_has x7 y5 s6) (fun x9 s8 => kl (mX0_farsInAll_50 J13) (fun J50 => if x9 = 0 then (J50 y4 y5 s8) else (ldA s8 30 1296 ((y2 * (36 : Int32)) + y5) (fun x13 => kl ((y4 + x13.toInt64)) (fun x14 => J50 x14 y5 s8)))))))
def mX0_farsInAll_4 (J4 : Int64 → Int32 → St → Option (Int64 × St)) (y1 : Int64) (y2 : Int32) (s3 : St) : Option (Int64 × St) := if (36 : Int32) ≤ y2 then (some (y1, s3)) else (kl (lp (fun _ _ _ => none) (mX0_farsInAll_13 J4 y2) 2000) (fun J13 => J13 y1 (0 : Int32) s3))
def mX0_farsInAll  (s0 : St) : Option (Int64 × St) := kl (lp (fun _ _ _ => none) (mX0_farsInAll_4) 2000) (fun J4 => J4 (0 : Int64) (0 : Int32) s0)
def mJ7_fill_53178_5 (x1 : Int32) (o0 : Nat) (a1 : Int32) (J5 : Int32 → St → Option St) (y2 : Int32) (s3 : St) : Option St := if x1 ≤ y2 then (some s3) else (stA s3 o0 (ln o0) y2 a1 (fun s4 => J5 ((y2 + 1)) s4))
def mJ7_fill_53178 (o0 : Nat) (a1 : Int32) (s0 : St) : Option St := kl ((Int32.ofNat (ln o0))) (fun x1 => kl (lp (fun _ _ => none) (mJ7_fill_53178_5 x1 o0 a1) 2000) (fun J5 => J5 (0 : Int32) s0))
def mJ7_fill_d0a16_6 (x1 : Int32) (o0 : Nat) (a1 : Int64) (J6 : Int32 → St → Option St) (y2 : Int32) (s3 : St) : Option St := if x1 ≤ y2 then (some s3) else (stL s3 o0 (ln o0) y2 a1 (fun s4 => J6 ((y2 + 1)) s4))
def mJ7_fill_d0a16 (o0 : Nat) (a1 : Int64) (s0 : St) : Option St := kl ((Int32.ofNat (ln o0))) (fun x1 => kl (lp (fun _ _ => none) (mJ7_fill_d0a16_6 x1 o0 a1) 2000) (fun J6 => J6 (0 : Int32) s0))
def mX0_start (a1 : Int32) (a2 : Int32) (s0 : St) : Option St := cl1 (mJ7_fill_53178 35 (-4 : Int32) s0) (fun s1 => cl1 (mJ7_fill_d0a16 33 (0 : Int64) s1) (fun s2 => cl2 (mX0_isPair a1 a2 s2) (fun x4 s3 => if x4 = 0 then (some s3) else (cl2 (mX7_bit a2 s3) (fun x6 s5 => stL s5 33 36 a1 x6 (fun s7 => stA s7 35 1296 ((a1 * (36 : Int32)) + a2) (0 : Int32) (fun s8 => some s8)))))))
def mX7_cellTo (a0 : Int32) (a1 : Int32) (s0 : St) : Option (Int32 × St) := cl2 (mX10_isCell (a0.toInt64) s0) (fun x2 s1 => if x2 = 0 then (some ((-4 : Int32), s1)) else (if a1 = (0 : Int32) then (some (a0, s1)) else (if a1 = (1 : Int32) then (if a0 < (6 : Int32) then (some ((-4 : Int32), s1)) else (some ((a0 - (6 : Int32)), s1))) else (if a1 = (2 : Int32) then (if (a0 - a0 / (6 : Int32) * (6 : Int32)) ≤ 0 then (some ((-4 : Int32), s1)) else (some ((a0 - (1 : Int32)), s1))) else (if a1 = (3 : Int32) then (if (5 : Int32) ≤ (a0 - a0 / (6 : Int32) * (6 : Int32)) then (some ((-4 : Int32), s1)) else (some ((a0 + (1 : Int32)), s1))) else (if a1 = (4 : Int32) then (if (30 : Int32) ≤ a0 then (some ((-4 : Int32), s1)) else (some ((a0 + (6 : Int32)), s1))) else (some ((-4 : Int32), s1))))))))
def mX0_comeAround_38 (J5 : Int64 → Int32 → St → Option (Int64 × St)) (y8 : Int64) (y9 : Int32) (s10 : St) : Option (Int64 × St) := J5 y8 ((y9 + 1)) s10
def mX0_comeAround_5 (a1 : Int32) (J5 : Int64 → Int32 → St → Option (Int64 × St)) (y1 : Int64) (y2 : Int32) (s3 : St) : Option (Int64 × St) := if (5 : Int32) ≤ y2 then (some (y1, s3)) else (cl2 (mX7_cellTo a1 y2 s3) (fun x5 s4 => cl2 (mX10_isCell (x5.toInt64) s4) (fun x7 s6 => kl (mX0_comeAround_38 J5) (fun J38 => if x7 = 0 then (J38 y1 y2 s6) else (ldL s6 33 36 x5 (fun x11 => kl ((y1 ||| x11)) (fun x12 => J38 x12 y2 s6)))))))
def mX0_comeAround (a1 : Int32) (s0 : St) : Option (Int64 × St) := kl (lp (fun _ _ _ => none) (mX0_comeAround_5 a1) 2000) (fun J5 => J5 (0 : Int64) (0 : Int32) s0)
def mX7_spread (a0 : Int64) (s0 : St) : Option (Int64 × St) := kl (((a0 ||| ((a0 &&& (-1090785346 : Int64)) >>> ((1 : Int32).toInt64 &&& 63))) ||| ((a0 &&& (-34905131041 : Int64)) <<< ((1 : Int32).toInt64 &&& 63)))) (fun x1 => some ((((x1 ||| (a0 >>> ((6 : Int32).toInt64 &&& 63))) ||| (a0 <<< ((6 : Int32).toInt64 &&& 63))) &&& (68719476735 : Int64)), s0))
def mX0_mark_41 (J3 : Int32 → St → Option St) (y5 : Int32) (s6 : St) : Option St := J3 ((y5 + 1)) s6
def mX0_mark_3 (a1 : Int32) (a2 : Int64) (a4 : Int32) (J3 : Int32 → St → Option St) (y1 : Int32) (s2 : St) : Option St := if (36 : Int32) ≤ y1 then (some s2) else (cl2 (mX10_isCell (a1.toInt64) s2) (fun x4 s3 => kl (mX0_mark_41 J3) (fun J41 => if x4 = 0 then (J41 y1 s3) else (cl2 (mX7_has a2 y1 s3) (fun x8 s7 => if x8 = 0 then (J41 y1 s7) else (stA s7 35 1296 ((a1 * (36 : Int32)) + y1) a4 (fun s9 => J41 y1 s9)))))))
def mX0_mark (a1 : Int32) (a2 : Int64) (a4 : Int32) (s0 : St) : Option St := kl (lp (fun _ _ => none) (mX0_mark_3 a1 a2 a4) 2000) (fun J3 => J3 (0 : Int32) s0)
def mX0_spreadOn_111 (J65 : Int32 → Int32 → St → Option (Int32 × St)) (y7 : Int32) (y8 : Int32) (s9 : St) : Option (Int32 × St) := J65 y7 ((y8 + 1)) s9
def mX0_spreadOn_65 (a1 : Int32) (J65 : Int32 → Int32 → St → Option (Int32 × St)) (y3 : Int32) (y4 : Int32) (s5 : St) : Option (Int32 × St) := if (36 : Int32) ≤ y4 then (rz y3 s5) else (ldL s5 34 36 y4 (fun x6 => kl (mX0_spreadOn_111 J65) (fun J111 => if (lg_cmp x6 (0 : Int64)) = 0 then (J111 y3 y4 s5) else (ldL s5 33 36 y4 (fun x10 => ldL s5 34 36 y4 (fun x11 => stL s5 33 36 y4 (x10 ||| x11) (fun s12 => ldL s12 34 36 y4 (fun x13 => cl1 (mX0_mark y4 x13 a1 s12) (fun s14 => J111 (1 : Int32) y4 s14)))))))))
def mX0_spreadOn_54 (y1 : Int32) (J2 : Int32 → St → Option (Int32 × St)) (y16 : Int64) (s17 : St) : Option (Int32 × St) := stL s17 34 36 y1 y16 (fun s18 => J2 ((y1 + 1)) s18)
def mX0_spreadOn_2 (a1 : Int32) (J2 : Int32 → St → Option (Int32 × St)) (y1 : Int32) (s2 : St) : Option (Int32 × St) := if (36 : Int32) ≤ y1 then (kl (lp (fun _ _ _ => none) (mX0_spreadOn_65 a1) 2000) (fun J65 => J65 (0 : Int32) (0 : Int32) s2)) else (ldL s2 32 36 y1 (fun x15 => kl (mX0_spreadOn_54 y1 J2) (fun J54 => if (lg_cmp x15 (0 : Int64)) = 0 then (J54 (0 : Int64) s2) else (cl2 (mX0_comeAround y1 s2) (fun x20 s19 => cl2 (mX7_spread x20 s19) (fun x22 s21 => ldL s21 32 36 y1 (fun x23 => ldL s21 33 36 y1 (fun x24 => J54 (((x22 &&& x23) &&& (x24 ^^^ (-1 : Int64)))) s21))))))))
def mX0_spreadOn (a1 : Int32) (s0 : St) : Option (Int32 × St) := kl (lp (fun _ _ => none) (mX0_spreadOn_2 a1) 2000) (fun J2 => J2 (0 : Int32) s0)
def mX0_daysBetween_32 (a1 : Int32) (a2 : Int32) (J32 : Int32 → St → Option (Int32 × St)) (y6 : Int32) (s7 : St) : Option (Int32 × St) := if (1296 : Int32) ≤ y6 then (some ((-4 : Int32), s7)) else (ldL s7 33 36 a1 (fun x8 => cl2 (mX7_has x8 a2 s7) (fun x10 s9 => if x10 = 0 then (cl2 (mX0_spreadOn (y6 + (1 : Int32)) s9) (fun x12 s11 => if x12 = 0 then (some ((-4 : Int32), s11)) else (J32 ((y6 + 1)) s11))) else (some (y6, s9)))))
def mX0_daysBetween (a1 : Int32) (a2 : Int32) (a3 : Int32) (a4 : Int32) (s0 : St) : Option (Int32 × St) := cl2 (mX0_isPair a1 a2 s0) (fun x2 s1 => if x2 = 0 then (some ((-4 : Int32), s1)) else (cl2 (mX0_isPair a3 a4 s1) (fun x4 s3 => if x4 = 0 then (some ((-4 : Int32), s3)) else (cl1 (mX0_start a3 a4 s3) (fun s5 => kl (lp (fun _ _ => none) (mX0_daysBetween_32 a1 a2) 2000) (fun J32 => J32 (0 : Int32) s5))))))
def mX0_daysLeft (a1 : Int32) (a2 : Int32) (s0 : St) : Option (Int32 × St) := cl2 (mX10_isCell (a1.toInt64) s0) (fun x2 s1 => if x2 = 0 then (some ((-4 : Int32), s1)) else (cl2 (mX10_isCell (a2.toInt64) s1) (fun x4 s3 => if x4 = 0 then (some ((-4 : Int32), s3)) else (ldA s3 35 1296 ((a1 * (36 : Int32)) + a2) (fun x5 => some (x5, s3))))))
def mX0_nextPair_91 (J25 : Int32 → Int32 → St → Option (Int32 × St)) (y15 : Int32) (y16 : Int32) (s17 : St) : Option (Int32 × St) := J25 y15 ((y16 + 1)) s17
def mX0_nextPair_87 (J91 : Int32 → Int32 → St → Option (Int32 × St)) (x14 : Int32) (y8 : Int32) (s20 : St) : Option (Int32 × St) := J91 x14 y8 s20
def mX0_nextPair_25 (J16 : Int32 → Int32 → St → Option (Int32 × St)) (y5 : Int32) (a1 : Int32) (a2 : Int32) (x3 : Int32) (J25 : Int32 → Int32 → St → Option (Int32 × St)) (y7 : Int32) (y8 : Int32) (s9 : St) : Option (Int32 × St) := if (5 : Int32) ≤ y8 then (J16 y7 ((y5 + 1)) s9) else (cl2 (mX7_cellTo a1 y5 s9) (fun x11 s10 => cl2 (mX7_cellTo a2 y8 s10) (fun x13 s12 => kl ((((100 : Int32) * x11) + x13)) (fun x14 => kl (mX0_nextPair_91 J25) (fun J91 => if x3 < 0 then (J91 y7 y8 s12) else (cl2 (mX0_daysLeft x11 x13 s12) (fun x19 s18 => if x19 = x3 then (kl (mX0_nextPair_87 J91 x14 y8) (fun J87 => if y7 = (-4 : Int32) then (J87 s18) else (if y7 ≤ x14 then (J91 y7 y8 s18) else (J87 s18)))) else (J91 y7 y8 s18))))))))
def mX0_nextPair_16 (a1 : Int32) (a2 : Int32) (x3 : Int32) (J16 : Int32 → Int32 → St → Option (Int32 × St)) (y4 : Int32) (y5 : Int32) (s6 : St) : Option (Int32 × St) := if (5 : Int32) ≤ y5 then (some (y4, s6)) else (kl (lp (fun _ _ _ => none) (mX0_nextPair_25 J16 y5 a1 a2 x3) 2000) (fun J25 => J25 y4 (0 : Int32) s6))
def mX0_nextPair (a1 : Int32) (a2 : Int32) (s0 : St) : Option (Int32 × St) := cl2 (mX0_daysLeft a1 a2 s0) (fun x2 s1 => kl ((x2 - (1 : Int32))) (fun x3 => kl (lp (fun _ _ _ => none) (mX0_nextPair_16 a1 a2 x3) 2000) (fun J16 => J16 (-4 : Int32) (0 : Int32) s1)))
def mX0_pairOnWay_47 (y2 : Int32) (s5 : St) : Option (Int32 × St) := some (y2, s5)
def mX0_pairOnWay_11 (a3 : Int32) (J11 : Int32 → Int32 → St → Option (Int32 × St)) (y2 : Int32) (y3 : Int32) (s4 : St) : Option (Int32 × St) := kl (mX0_pairOnWay_47 y2) (fun J47 => if a3 ≤ y3 then (J47 s4) else (if (1296 : Int32) ≤ y3 then (J47 s4) else (cl2 (mX0_nextPair (y2 / (100 : Int32)) (y2 - y2 / (100 : Int32) * (100 : Int32)) s4) (fun x7 s6 => J11 x7 ((y3 + 1)) s6))))
def mX0_pairOnWay (a1 : Int32) (a2 : Int32) (a3 : Int32) (s0 : St) : Option (Int32 × St) := kl ((((100 : Int32) * a1) + a2)) (fun x1 => kl (lp (fun _ _ _ => none) (mX0_pairOnWay_11 a3) 2000) (fun J11 => J11 x1 (0 : Int32) s0))
def mX0_pairsWithin_9 (a3 : Int32) (J9 : Int32 → St → Option (Int32 × St)) (y2 : Int32) (s3 : St) : Option (Int32 × St) := if a3 < y2 then (cl2 (mX0_bitsOf 33 s3) (fun x5 s4 => some (x5, s4))) else (cl2 (mX0_spreadOn y2 s3) (fun x7 s6 => if x7 = 0 then (cl2 (mX0_bitsOf 33 s6) (fun x9 s8 => some (x9, s8))) else (J9 ((y2 + 1)) s6)))
def mX0_pairsWithin (a1 : Int32) (a2 : Int32) (a3 : Int32) (s0 : St) : Option (Int32 × St) := cl1 (mX0_start a1 a2 s0) (fun s1 => kl (lp (fun _ _ => none) (mX0_pairsWithin_9 a3) 2000) (fun J9 => J9 (1 : Int32) s1))
def mX0_walkHim_80 (J18 : Int32 → St → Option St) (y10 : Int32) (s11 : St) : Option St := J18 ((y10 + 1)) s11
def mX0_walkHim_32 (J18 : Int32 → St → Option St) (y4 : Int32) (x7 : Int32) (y2 : Int32) (J32 : Int32 → St → Option St) (y8 : Int32) (s9 : St) : Option St := kl (mX0_walkHim_80 J18) (fun J80 => if (36 : Int32) ≤ y8 then (J80 y4 s9) else (cl2 (mX10_isCell (x7.toInt64) s9) (fun x13 s12 => if x13 = 0 then (J80 y4 s12) else (ldL s12 37 1296 ((y2 * (36 : Int32)) + y8) (fun x14 => ldL s12 36 1296 ((x7 * (36 : Int32)) + y8) (fun x15 => stL s12 37 1296 ((y2 * (36 : Int32)) + y8) (x14 + x15) (fun s16 => J32 ((y8 + 1)) s16)))))))
def mX0_walkHim_18 (J10 : Int32 → St → Option St) (y2 : Int32) (J18 : Int32 → St → Option St) (y4 : Int32) (s5 : St) : Option St := if (5 : Int32) ≤ y4 then (J10 ((y2 + 1)) s5) else (cl2 (mX7_cellTo y2 y4 s5) (fun x7 s6 => kl (lp (fun _ _ => none) (mX0_walkHim_32 J18 y4 x7 y2) 2000) (fun J32 => J32 (0 : Int32) s6)))
def mX0_walkHim_10 (J10 : Int32 → St → Option St) (y2 : Int32) (s3 : St) : Option St := if (36 : Int32) ≤ y2 then (some s3) else (kl (lp (fun _ _ => none) (mX0_walkHim_18 J10 y2) 2000) (fun J18 => J18 (0 : Int32) s3))
def mX0_walkHim  (s0 : St) : Option St := cl1 (mJ7_fill_d0a16 37 (0 : Int64) s0) (fun s1 => kl (lp (fun _ _ => none) (mX0_walkHim_10) 2000) (fun J10 => J10 (0 : Int32) s1))
def mX0_walkHer_96 (J18 : Int32 → St → Option St) (y10 : Int32) (s11 : St) : Option St := J18 ((y10 + 1)) s11
def mX0_walkHer_90 (J32 : Int32 → St → Option St) (y15 : Int32) (s16 : St) : Option St := J32 ((y15 + 1)) s16
def mX0_walkHer_32 (J18 : Int32 → St → Option St) (y4 : Int32) (x7 : Int32) (y2 : Int32) (J32 : Int32 → St → Option St) (y8 : Int32) (s9 : St) : Option St := kl (mX0_walkHer_96 J18) (fun J96 => if (36 : Int32) ≤ y8 then (J96 y4 s9) else (cl2 (mX10_isCell (x7.toInt64) s9) (fun x13 s12 => if x13 = 0 then (J96 y4 s12) else (ldL s12 32 36 y8 (fun x14 => kl (mX0_walkHer_90 J32) (fun J90 => if (lg_cmp ((x14 >>> (y2.toInt64 &&& 63)) &&& (1 : Int64)) (1 : Int64)) = 0 then (ldL s12 36 1296 ((y8 * (36 : Int32)) + y2) (fun x17 => ldL s12 37 1296 ((y8 * (36 : Int32)) + x7) (fun x18 => stL s12 36 1296 ((y8 * (36 : Int32)) + y2) (x17 + x18) (fun s19 => J90 y8 s19)))) else (J90 y8 s12)))))))
def mX0_walkHer_18 (J10 : Int32 → St → Option St) (y2 : Int32) (J18 : Int32 → St → Option St) (y4 : Int32) (s5 : St) : Option St := if (5 : Int32) ≤ y4 then (J10 ((y2 + 1)) s5) else (cl2 (mX7_cellTo y2 y4 s5) (fun x7 s6 => kl (lp (fun _ _ => none) (mX0_walkHer_32 J18 y4 x7 y2) 2000) (fun J32 => J32 (0 : Int32) s6)))
def mX0_walkHer_10 (J10 : Int32 → St → Option St) (y2 : Int32) (s3 : St) : Option St := if (36 : Int32) ≤ y2 then (some s3) else (kl (lp (fun _ _ => none) (mX0_walkHer_18 J10 y2) 2000) (fun J18 => J18 (0 : Int32) s3))
def mX0_walkHer  (s0 : St) : Option St := cl1 (mJ7_fill_d0a16 36 (0 : Int64) s0) (fun s1 => kl (lp (fun _ _ => none) (mX0_walkHer_10) 2000) (fun J10 => J10 (0 : Int32) s1))
def mX0_walk_32 (a3 : Int32) (J32 : Int32 → St → Option St) (y5 : Int32) (s6 : St) : Option St := if a3 ≤ y5 then (some s6) else (cl1 (mX0_walkHim s6) (fun s7 => cl1 (mX0_walkHer s7) (fun s8 => J32 ((y5 + 1)) s8)))
def mX0_walk_29 (a3 : Int32) (s4 : St) : Option St := kl (lp (fun _ _ => none) (mX0_walk_32 a3) 2000) (fun J32 => J32 (0 : Int32) s4)
def mX0_walk (a1 : Int32) (a2 : Int32) (a3 : Int32) (s0 : St) : Option St := cl1 (mJ7_fill_d0a16 36 (0 : Int64) s0) (fun s1 => cl2 (mX0_isPair a1 a2 s1) (fun x3 s2 => kl (mX0_walk_29 a3) (fun J29 => if x3 = 0 then (J29 s2) else (stL s2 36 1296 ((a1 * (36 : Int32)) + a2) (1 : Int64) (fun s9 => J29 s9)))))
def mX0_walksTo (a1 : Int32) (a2 : Int32) (s0 : St) : Option (Int64 × St) := cl2 (mX10_isCell (a1.toInt64) s0) (fun x2 s1 => if x2 = 0 then (some ((0 : Int64), s1)) else (cl2 (mX10_isCell (a2.toInt64) s1) (fun x4 s3 => if x4 = 0 then (some ((0 : Int64), s3)) else (ldL s3 36 1296 ((a1 * (36 : Int32)) + a2) (fun x5 => some (x5, s3))))))
def mX0_walksInAll_4 (J4 : Int64 → Int32 → St → Option (Int64 × St)) (y1 : Int64) (y2 : Int32) (s3 : St) : Option (Int64 × St) := if (1296 : Int32) ≤ y2 then (some (y1, s3)) else (ldL s3 36 1296 y2 (fun x4 => kl ((y1 + x4)) (fun x5 => J4 x5 ((y2 + 1)) s3)))
def mX0_walksInAll  (s0 : St) : Option (Int64 × St) := kl (lp (fun _ _ _ => none) (mX0_walksInAll_4) 2000) (fun J4 => J4 (0 : Int64) (0 : Int32) s0)
def mX1_commonDivisor_44 (y1 : Int64) (s5 : St) : Option (Int64 × St) := some (y1, s5)
def mX1_commonDivisor_9 (J9 : Int64 → Int64 → Int32 → St → Option (Int64 × St)) (y1 : Int64) (y2 : Int64) (y3 : Int32) (s4 : St) : Option (Int64 × St) := kl (mX1_commonDivisor_44 y1) (fun J44 => if (100 : Int32) ≤ y3 then (J44 s4) else (if (lg_cmp y2 (0 : Int64)) = 0 then (J44 s4) else (dvL y2 (kl ((y1 - y1 / y2 * y2)) (fun x6 => J9 y2 x6 ((y3 + 1)) s4)))))
def mX1_commonDivisor (a0 : Int64) (a2 : Int64) (s0 : St) : Option (Int64 × St) := kl (lp (fun _ _ _ _ => none) (mX1_commonDivisor_9) 2000) (fun J9 => J9 a0 a2 (0 : Int32) s0)
def mX1_partOf_20 (a4 : Int32) (s3 : St) : Option (Int64 × St) := if a4 = 0 then (some ((0 : Int64), s3)) else (some ((1 : Int64), s3))
def mX1_partOf (a0 : Int64) (a2 : Int64) (a4 : Int32) (s0 : St) : Option (Int64 × St) := cl2 (mX1_commonDivisor a0 a2 s0) (fun x2 s1 => kl (mX1_partOf_20 a4) (fun J20 => if (lg_cmp a0 (0 : Int64)) = 0 then (J20 s1) else (if (lg_cmp x2 (0 : Int64)) = 0 then (J20 s1) else (if a4 = 0 then (dvL x2 (some ((a0 / x2), s1))) else (dvL x2 (some ((a2 / x2), s1)))))))
def mX2_isKind (a0 : Int32) (s0 : St) : Option (Int32 × St) := if a0 < 0 then (rz (0 : Int32) s0) else (if (7 : Int32) < a0 then (rz (0 : Int32) s0) else (rz (1 : Int32) s0))
def mX2_chanceOf (a0 : Int32) (a1 : Int32) (s0 : St) : Option (Int32 × St) := if a0 = (2 : Int32) then (some ((9 : Int32), s0)) else (if a0 = (3 : Int32) then (some ((5 : Int32), s0)) else (if a0 = (4 : Int32) then (some (((5 : Int32) + (a1 / (3 : Int32))), s0)) else (if a0 = (5 : Int32) then (some ((0 : Int32), s0)) else (if a0 = (6 : Int32) then (some ((8 : Int32), s0)) else (if a0 = (7 : Int32) then (some (((10 : Int32) - a1), s0)) else (some ((10 : Int32), s0)))))))
def mX2_costOf (a0 : Int32) (a1 : Int32) (s0 : St) : Option (Int32 × St) := if a0 = (1 : Int32) then (some ((1 : Int32), s0)) else (if a0 = (2 : Int32) then (some ((4 : Int32), s0)) else (if a0 = (3 : Int32) then (some ((8 : Int32), s0)) else (if a0 = (4 : Int32) then (some ((if (1 : Int32) < ((8 : Int32) - a1) then ((8 : Int32) - a1) else (1 : Int32)), s0)) else (if a0 = (5 : Int32) then (some ((9 : Int32), s0)) else (if a0 = (6 : Int32) then (some (((9 : Int32) + a1), s0)) else (if a0 = (7 : Int32) then (some (((3 : Int32) + a1), s0)) else (some ((3 : Int32), s0))))))))
def mX3_becomes_2 (o1 : Nat) (o0 : Nat) (J2 : Int32 → St → Option St) (y1 : Int32) (s2 : St) : Option St := if (36 : Int32) ≤ y1 then (kl (gI s2 o1 2) (fun x3 => kl (pI s2 o0 2 x3) (fun s4 => kl (gI s4 o1 3) (fun x5 => kl (pI s4 o0 3 x5) (fun s6 => kl (gI s6 o1 4) (fun x7 => kl (pI s6 o0 4 x7) (fun s8 => kl (gI s8 o1 5) (fun x9 => kl (pI s8 o0 5 x9) (fun s10 => kl (gI s10 o1 6) (fun x11 => kl (pI s10 o0 6 x11) (fun s12 => kl (gI s12 o1 7) (fun x13 => kl (pI s12 o0 7 x13) (fun s14 => kl (gI s14 o1 8) (fun x15 => kl (pI s14 o0 8 x15) (fun s16 => kl (gI s16 o1 9) (fun x17 => kl (pI s16 o0 9 x17) (fun s18 => some s18))))))))))))))))) else (ldA s2 (o1 + 3) 36 y1 (fun x19 => stA s2 (o0 + 3) 36 y1 x19 (fun s20 => ldA s20 (o1 + 6) 36 y1 (fun x21 => stA s20 (o0 + 6) 36 y1 x21 (fun s22 => J2 ((y1 + 1)) s22)))))
def mX3_becomes (o0 : Nat) (o1 : Nat) (s0 : St) : Option St := kl (lp (fun _ _ => none) (mX3_becomes_2 o1 o0) 2000) (fun J2 => J2 (0 : Int32) s0)
def mX3_kindAt (o0 : Nat) (a1 : Int32) (s0 : St) : Option (Int32 × St) := cl2 (mX10_isCell (a1.toInt64) s0) (fun x2 s1 => if x2 = 0 then (some ((0 : Int32), s1)) else (ldA s1 (o0 + 3) 36 a1 (fun x3 => some (x3, s1))))
def mX3_figureAt (o0 : Nat) (a1 : Int32) (s0 : St) : Option (Int32 × St) := cl2 (mX10_isCell (a1.toInt64) s0) (fun x2 s1 => if x2 = 0 then (some ((0 : Int32), s1)) else (ldA s1 (o0 + 6) 36 a1 (fun x3 => some (x3, s1))))
def mX3_chanceAt (o0 : Nat) (a1 : Int32) (s0 : St) : Option (Int32 × St) := cl2 (mX10_isCell (a1.toInt64) s0) (fun x2 s1 => if x2 = 0 then (some ((0 : Int32), s1)) else (ldA s1 (o0 + 3) 36 a1 (fun x3 => ldA s1 (o0 + 6) 36 a1 (fun x4 => cl2 (mX2_chanceOf x3 x4 s1) (fun x6 s5 => some (x6, s5))))))
def mX3_sureCells_27 (J4 : Int64 → Int32 → St → Option (Int64 × St)) (y6 : Int64) (y7 : Int32) (s8 : St) : Option (Int64 × St) := J4 y6 ((y7 + 1)) s8
def mX3_sureCells_4 (o0 : Nat) (J4 : Int64 → Int32 → St → Option (Int64 × St)) (y1 : Int64) (y2 : Int32) (s3 : St) : Option (Int64 × St) := if (36 : Int32) ≤ y2 then (some (y1, s3)) else (cl2 (mX3_chanceAt o0 y2 s3) (fun x5 s4 => kl (mX3_sureCells_27 J4) (fun J27 => if x5 = (10 : Int32) then (cl2 (mX7_bit y2 s4) (fun x10 s9 => kl ((y1 ||| x10)) (fun x11 => J27 x11 y2 s9))) else (J27 y1 y2 s4))))
def mX3_sureCells (o0 : Nat) (s0 : St) : Option (Int64 × St) := kl (lp (fun _ _ _ => none) (mX3_sureCells_4 o0) 2000) (fun J4 => J4 (0 : Int64) (0 : Int32) s0)
def mX3_unsureCells_35 (J4 : Int64 → Int32 → St → Option (Int64 × St)) (y6 : Int64) (y7 : Int32) (s8 : St) : Option (Int64 × St) := J4 y6 ((y7 + 1)) s8
def mX3_unsureCells_4 (o0 : Nat) (J4 : Int64 → Int32 → St → Option (Int64 × St)) (y1 : Int64) (y2 : Int32) (s3 : St) : Option (Int64 × St) := if (36 : Int32) ≤ y2 then (some (y1, s3)) else (cl2 (mX3_chanceAt o0 y2 s3) (fun x5 s4 => kl (mX3_unsureCells_35 J4) (fun J35 => if x5 ≤ 0 then (J35 y1 y2 s4) else (cl2 (mX3_chanceAt o0 y2 s4) (fun x10 s9 => if (10 : Int32) ≤ x10 then (J35 y1 y2 s9) else (cl2 (mX7_bit y2 s9) (fun x12 s11 => kl ((y1 ||| x12)) (fun x13 => J35 x13 y2 s11))))))))
def mX3_unsureCells (o0 : Nat) (s0 : St) : Option (Int64 × St) := kl (lp (fun _ _ _ => none) (mX3_unsureCells_4 o0) 2000) (fun J4 => J4 (0 : Int64) (0 : Int32) s0)
def mX3_bothStand (o0 : Nat) (s0 : St) : Option (Int32 × St) := kl (gI s0 o0 5) (fun x1 => if x1 = (-4 : Int32) then (rz (0 : Int32) s0) else (kl (gI s0 o0 6) (fun x2 => if x2 = (-4 : Int32) then (rz (0 : Int32) s0) else (rz (1 : Int32) s0))))
def mX3_farBetween (o0 : Nat) (a1 : Int32) (a2 : Int32) (s0 : St) : Option (Int32 × St) := cl2 (mX7_apart a1 a2 s0) (fun x2 s1 => cl2 (mX3_heightAt o0 a1 s1) (fun x4 s3 => cl2 (mX3_heightAt o0 a2 s3) (fun x6 s5 => some ((x2 + ((if 0 ≤ (x4 - x6) then (x4 - x6) else 0 - (x4 - x6)) / (2 : Int32))), s5))))
def mX3_layAt (o0 : Nat) (a1 : Int32) (a2 : Int32) (a3 : Int32) (s0 : St) : Option St := cl2 (mX10_isCell (a1.toInt64) s0) (fun x2 s1 => if x2 = 0 then (some s1) else (stA s1 (o0 + 3) 36 a1 a2 (fun s3 => stA s3 (o0 + 6) 36 a1 a3 (fun s4 => some s4))))
def mX3_place (o0 : Nat) (a1 : Int32) (a2 : Int32) (s0 : St) : Option St := if a1 = 0 then (kl (pI s0 o0 5 a2) (fun s2 => some s2)) else (kl (pI s0 o0 6 a2) (fun s1 => some s1))
def mX3_cellBy_18 (x2 : Int32) (s3 : St) : Option (Int32 × St) := some (x2, s3)
def mX3_cellBy (o0 : Nat) (a1 : Int32) (a2 : Int32) (s0 : St) : Option (Int32 × St) := cl2 (mX7_cellTo a1 a2 s0) (fun x2 s1 => kl (mX3_cellBy_18 x2) (fun J18 => if a2 = 0 then (J18 s1) else (cl2 (mX3_isOpen o0 x2 s1) (fun x5 s4 => if x5 = 0 then (some ((-4 : Int32), s4)) else (J18 s4)))))
def mX3_cellByOrStay (o0 : Nat) (a1 : Int32) (a2 : Int32) (s0 : St) : Option (Int32 × St) := cl2 (mX3_cellBy o0 a1 a2 s0) (fun x2 s1 => if x2 = (-4 : Int32) then (some (a1, s1)) else (some (x2, s1)))
def mX3_endDay_41 (o0 : Nat) (x6 : Int32) (s8 : St) : Option St := kl (gI s8 o0 4) (fun x9 => if x6 ≤ x9 then (some s8) else (kl (gI s8 o0 9) (fun x10 => kl (pI s8 o0 9 (x10 + (1 : Int32))) (fun s11 => some s11))))
def mX3_endDay (o0 : Nat) (a1 : Int32) (a2 : Int32) (s0 : St) : Option St := kl (pI s0 o0 5 a1) (fun s1 => kl (pI s1 o0 6 a2) (fun s2 => kl (gI s2 o0 5) (fun x3 => kl (gI s2 o0 6) (fun x4 => cl2 (mX3_farBetween o0 x3 x4 s2) (fun x6 s5 => kl (gI s5 o0 3) (fun x7 => kl (mX3_endDay_41 o0 x6) (fun J41 => if x7 ≤ x6 then (J41 s5) else (kl (gI s5 o0 8) (fun x12 => kl (pI s5 o0 8 (x12 + (1 : Int32))) (fun s13 => J41 s13))))))))))
def mX3_goDay (o0 : Nat) (a1 : Int32) (a2 : Int32) (s0 : St) : Option (Int32 × St) := kl (gI s0 o0 5) (fun x1 => cl2 (mX3_cellBy o0 x1 a1 s0) (fun x3 s2 => kl (gI s2 o0 6) (fun x4 => cl2 (mX3_cellBy o0 x4 a2 s2) (fun x6 s5 => if x3 = (-4 : Int32) then (rz (0 : Int32) s5) else (if x6 = (-4 : Int32) then (rz (0 : Int32) s5) else (kl (gI s5 o0 7) (fun x7 => if x7 < (999 : Int32) then (kl (gI s5 o0 7) (fun x8 => kl (pI s5 o0 7 (x8 + (1 : Int32))) (fun s9 => cl1 (mX3_endDay o0 x3 x6 s9) (fun s10 => rz (1 : Int32) s10)))) else (rz (0 : Int32) s5))))))))
def mX4_lay_84 (y1 : Int32) (y3 : Int32) (J9 : Int32 → St → Option St) (y13 : Int32) (s14 : St) : Option St := stA s14 43 25 ((y1 * (5 : Int32)) + y3) y13 (fun s15 => J9 ((y3 + 1)) s15)
def mX4_lay_55 (y1 : Int32) (y3 : Int32) (J9 : Int32 → St → Option St) (o1 : Nat) (x7 : Int32) (x10 : Int32) (y11 : Int32) (s12 : St) : Option St := kl (mX4_lay_84 y1 y3 J9) (fun J84 => if y11 = 0 then (J84 (-4 : Int32) s12) else (cl2 (mX3_farBetween o1 x7 x10 s12) (fun x17 s16 => J84 x17 s16)))
def mX4_lay_54 (J55 : Int32 → St → Option St) (s18 : St) : Option St := J55 (0 : Int32) s18
def mX4_lay_9 (J2 : Int32 → St → Option St) (y1 : Int32) (o1 : Nat) (J9 : Int32 → St → Option St) (y3 : Int32) (s4 : St) : Option St := if (5 : Int32) ≤ y3 then (J2 ((y1 + 1)) s4) else (kl (gI s4 o1 5) (fun x5 => cl2 (mX3_cellBy o1 x5 y1 s4) (fun x7 s6 => kl (gI s6 o1 6) (fun x8 => cl2 (mX3_cellBy o1 x8 y3 s6) (fun x10 s9 => kl (mX4_lay_55 y1 y3 J9 o1 x7 x10) (fun J55 => kl (mX4_lay_54 J55) (fun J54 => if x7 = (-4 : Int32) then (J54 s9) else (if x10 = (-4 : Int32) then (J54 s9) else (J55 (1 : Int32) s9)))))))))
def mX4_lay_2 (o1 : Nat) (J2 : Int32 → St → Option St) (y1 : Int32) (s2 : St) : Option St := if (5 : Int32) ≤ y1 then (some s2) else (kl (lp (fun _ _ => none) (mX4_lay_9 J2 y1 o1) 2000) (fun J9 => J9 (0 : Int32) s2))
def mX4_lay (o1 : Nat) (s0 : St) : Option St := kl (lp (fun _ _ => none) (mX4_lay_2 o1) 2000) (fun J2 => J2 (0 : Int32) s0)
def mX10_isWay (a0 : Int32) (s0 : St) : Option (Int32 × St) := if a0 < 0 then (rz (0 : Int32) s0) else (if (5 : Int32) ≤ a0 then (rz (0 : Int32) s0) else (rz (1 : Int32) s0))
def mX4_farOf (a1 : Int32) (a2 : Int32) (s0 : St) : Option (Int32 × St) := cl2 (mX10_isWay a1 s0) (fun x2 s1 => if x2 = 0 then (some ((-4 : Int32), s1)) else (cl2 (mX10_isWay a2 s1) (fun x4 s3 => if x4 = 0 then (some ((-4 : Int32), s3)) else (ldA s3 43 25 ((a1 * (5 : Int32)) + a2) (fun x5 => some (x5, s3))))))
def mX4_isHeld_62 (J10 : Int32 → St → Option (Int32 × St)) (y10 : Int32) (s11 : St) : Option (Int32 × St) := J10 ((y10 + 1)) s11
def mX4_isHeld_47 (J10 : Int32 → St → Option (Int32 × St)) (x8 : Int32) (y3 : Int32) (x2 : Int32) (s9 : St) : Option (Int32 × St) := kl (mX4_isHeld_62 J10) (fun J62 => if x8 = (-4 : Int32) then (J62 y3 s9) else (if x8 ≤ x2 then (J62 y3 s9) else (rz (0 : Int32) s9)))
def mX4_isHeld_10 (a2 : Int32) (a1 : Int32) (x2 : Int32) (J10 : Int32 → St → Option (Int32 × St)) (y3 : Int32) (s4 : St) : Option (Int32 × St) := if (5 : Int32) ≤ y3 then (rz (1 : Int32) s4) else (cl2 (mX4_farOf y3 a2 s4) (fun x6 s5 => cl2 (mX4_farOf a1 y3 s5) (fun x8 s7 => kl (mX4_isHeld_47 J10 x8 y3 x2) (fun J47 => if x6 = (-4 : Int32) then (J47 s7) else (if x6 < x2 then (rz (0 : Int32) s7) else (J47 s7))))))
def mX4_isHeld (a1 : Int32) (a2 : Int32) (s0 : St) : Option (Int32 × St) := cl2 (mX4_farOf a1 a2 s0) (fun x2 s1 => kl (lp (fun _ _ => none) (mX4_isHeld_10 a2 a1 x2) 2000) (fun J10 => J10 (0 : Int32) s1))
def mX4_firstHeld_41 (J9 : Int32 → St → Option (Int32 × St)) (y7 : Int32) (s8 : St) : Option (Int32 × St) := J9 ((y7 + 1)) s8
def mX4_firstHeld_9 (J2 : Int32 → St → Option (Int32 × St)) (y1 : Int32) (J9 : Int32 → St → Option (Int32 × St)) (y3 : Int32) (s4 : St) : Option (Int32 × St) := if (5 : Int32) ≤ y3 then (J2 ((y1 + 1)) s4) else (cl2 (mX4_farOf y1 y3 s4) (fun x6 s5 => kl (mX4_firstHeld_41 J9) (fun J41 => if x6 = (-4 : Int32) then (J41 y3 s5) else (cl2 (mX4_isHeld y1 y3 s5) (fun x10 s9 => if x10 = 0 then (J41 y3 s9) else (some ((((10 : Int32) * y1) + y3), s9)))))))
def mX4_firstHeld_2 (J2 : Int32 → St → Option (Int32 × St)) (y1 : Int32) (s2 : St) : Option (Int32 × St) := if (5 : Int32) ≤ y1 then (some ((-4 : Int32), s2)) else (kl (lp (fun _ _ => none) (mX4_firstHeld_9 J2 y1) 2000) (fun J9 => J9 (0 : Int32) s2))
def mX4_firstHeld  (s0 : St) : Option (Int32 × St) := kl (lp (fun _ _ => none) (mX4_firstHeld_2) 2000) (fun J2 => J2 (0 : Int32) s0)
def mX4_worstOf_5 (a1 : Int32) (J5 : Int32 → Int32 → St → Option (Int32 × St)) (y1 : Int32) (y2 : Int32) (s3 : St) : Option (Int32 × St) := if (5 : Int32) ≤ y2 then (some (y1, s3)) else (cl2 (mX4_farOf a1 y2 s3) (fun x5 s4 => kl ((if y1 < x5 then x5 else y1)) (fun x6 => J5 x6 ((y2 + 1)) s4)))
def mX4_worstOf (a1 : Int32) (s0 : St) : Option (Int32 × St) := kl (lp (fun _ _ _ => none) (mX4_worstOf_5 a1) 2000) (fun J5 => J5 (-4 : Int32) (0 : Int32) s0)
def mX4_leastSure_35 (J5 : Int32 → Int32 → St → Option (Int32 × St)) (y6 : Int32) (y7 : Int32) (s8 : St) : Option (Int32 × St) := J5 y6 ((y7 + 1)) s8
def mX4_leastSure_33 (J35 : Int32 → Int32 → St → Option (Int32 × St)) (x5 : Int32) (y2 : Int32) (s9 : St) : Option (Int32 × St) := J35 x5 y2 s9
def mX4_leastSure_5 (J5 : Int32 → Int32 → St → Option (Int32 × St)) (y1 : Int32) (y2 : Int32) (s3 : St) : Option (Int32 × St) := if (5 : Int32) ≤ y2 then (some (y1, s3)) else (cl2 (mX4_worstOf y2 s3) (fun x5 s4 => kl (mX4_leastSure_35 J5) (fun J35 => if x5 = (-4 : Int32) then (J35 y1 y2 s4) else (kl (mX4_leastSure_33 J35 x5 y2) (fun J33 => if y1 = (-4 : Int32) then (J33 s4) else (if y1 ≤ x5 then (J35 y1 y2 s4) else (J33 s4)))))))
def mX4_leastSure  (s0 : St) : Option (Int32 × St) := kl (lp (fun _ _ _ => none) (mX4_leastSure_5) 2000) (fun J5 => J5 (-4 : Int32) (0 : Int32) s0)
def mX5_takeGround (o0 : Nat) (a1 : Int32) (a2 : Int32) (s0 : St) : Option St := kl (pI s0 o0 0 (1 : Int32)) (fun s1 => kl (pI s1 o0 1 a1) (fun s2 => kl (pI s2 o0 2 a2) (fun s3 => some s3)))
def mX5_takeRow (o0 : Nat) (a1 : Int32) (a2 : Int32) (s0 : St) : Option St := kl (pI s0 o0 0 (2 : Int32)) (fun s1 => kl (pI s1 o0 3 a1) (fun s2 => kl (pI s2 o0 4 a2) (fun s3 => cl1 (mJ7_fill_d0a16 (o0 + 9) (0 : Int64) s3) (fun s4 => some s4))))
def mX5_hasPlace (o0 : Nat) (a1 : Int32) (s0 : St) : Option (Int32 × St) := if a1 < 0 then (rz (0 : Int32) s0) else (kl (gI s0 o0 4) (fun x1 => if x1 ≤ a1 then (rz (0 : Int32) s0) else (rz (1 : Int32) s0)))
def mX5_hasPlaces (o0 : Nat) (a1 : Int32) (a2 : Int32) (s0 : St) : Option (Int32 × St) := if a1 < 0 then (rz (0 : Int32) s0) else (if a2 < 0 then (rz (0 : Int32) s0) else (kl (gI s0 o0 4) (fun x1 => if x1 < a1 then (rz (0 : Int32) s0) else (kl (gI s0 o0 4) (fun x2 => if (x2 - a1) < a2 then (rz (0 : Int32) s0) else (rz (1 : Int32) s0))))))
def mX5_numberAt (o0 : Nat) (a1 : Int32) (s0 : St) : Option (Int64 × St) := if a1 < 0 then (some ((0 : Int64), s0)) else (kl (gI s0 o0 4) (fun x1 => if x1 ≤ a1 then (some ((0 : Int64), s0)) else (if (100 : Int32) ≤ a1 then (some ((0 : Int64), s0)) else (ldL s0 (o0 + 9) 100 a1 (fun x2 => some (x2, s0))))))
def mX5_write_41 (o0 : Nat) (a1 : Int32) (y3 : Int64) (s4 : St) : Option St := stL s4 (o0 + 9) 100 a1 y3 (fun s5 => some s5)
def mX5_write (o0 : Nat) (a1 : Int32) (a2 : Int32) (s0 : St) : Option St := if a1 < 0 then (some s0) else (kl (gI s0 o0 4) (fun x1 => if x1 ≤ a1 then (some s0) else (if (100 : Int32) ≤ a1 then (some s0) else (kl (gI s0 o0 3) (fun x2 => kl (mX5_write_41 o0 a1) (fun J41 => if x2 = 0 then (J41 (a2.toInt8.toInt32.toInt64) s0) else (J41 (a2.toInt64) s0)))))))
def mX5_leastNumber (o0 : Nat) (s0 : St) : Option (Int64 × St) := kl (gI s0 o0 3) (fun x1 => if x1 = (0 : Int32) then (some ((-128 : Int64), s0)) else (if x1 = (1 : Int32) then (some ((-2147483648 : Int64), s0)) else (some ((-9223372036854775808 : Int64), s0))))
def mX6_passableOf_45 (J8 : Int64 → Int32 → Int32 → St → Option (Int64 × St)) (y7 : Int64) (y8 : Int32) (y9 : Int32) (s10 : St) : Option (Int64 × St) := J8 y7 y8 ((y9 + 1)) s10
def mX6_passableOf_42 (J45 : Int64 → Int32 → Int32 → St → Option (Int64 × St)) (y3 : Int32) (y11 : Int64) (y12 : Int32) (s13 : St) : Option (Int64 × St) := J45 y11 ((y12 + 1)) y3 s13
def mX6_passableOf_8 (a0 : Int64) (a2 : Int32) (J8 : Int64 → Int32 → Int32 → St → Option (Int64 × St)) (y1 : Int64) (y2 : Int32) (y3 : Int32) (s4 : St) : Option (Int64 × St) := if (36 : Int32) ≤ y3 then (some (y1, s4)) else (cl2 (mX7_has a0 y3 s4) (fun x6 s5 => kl (mX6_passableOf_45 J8) (fun J45 => if x6 = 0 then (J45 y1 y2 y3 s5) else (kl (mX6_passableOf_42 J45 y3) (fun J42 => if ((a2 >>> (y2 &&& 31)) &&& (1 : Int32)) = (1 : Int32) then (cl2 (mX7_bit y3 s5) (fun x15 s14 => kl ((y1 ||| x15)) (fun x16 => J42 x16 y2 s14))) else (J42 y1 y2 s5))))))
def mX6_passableOf (a0 : Int64) (a2 : Int32) (s0 : St) : Option (Int64 × St) := kl (lp (fun _ _ _ _ => none) (mX6_passableOf_8 a0 a2) 2000) (fun J8 => J8 (0 : Int64) (0 : Int32) (0 : Int32) s0)
def mX7_stepsBetween_11 (a1 : Int32) (a2 : Int64) (J11 : Int64 → Int32 → St → Option (Int32 × St)) (y4 : Int64) (y5 : Int32) (s6 : St) : Option (Int32 × St) := if (36 : Int32) ≤ y5 then (some ((-4 : Int32), s6)) else (cl2 (mX7_has y4 a1 s6) (fun x8 s7 => if x8 = 0 then (cl2 (mX7_spread y4 s7) (fun x10 s9 => kl ((x10 &&& a2)) (fun x11 => J11 x11 ((y5 + 1)) s9))) else (some (y5, s7))))
def mX7_stepsBetween (a0 : Int32) (a1 : Int32) (a2 : Int64) (s0 : St) : Option (Int32 × St) := cl2 (mX7_bit a0 s0) (fun x2 s1 => kl ((x2 &&& a2)) (fun x3 => kl (lp (fun _ _ _ => none) (mX7_stepsBetween_11 a1 a2) 2000) (fun J11 => J11 x3 (0 : Int32) s1)))
def mX6_weightOf_56 (J6 : Int64 → Int32 → St → Option (Int64 × St)) (y6 : Int64) (y7 : Int32) (s8 : St) : Option (Int64 × St) := J6 y6 ((y7 + 1)) s8
def mX6_weightOf_53 (y1 : Int64) (J56 : Int64 → Int32 → St → Option (Int64 × St)) (y2 : Int32) (y13 : Int64) (s14 : St) : Option (Int64 × St) := kl ((y1 * y13)) (fun x15 => J56 x15 y2 s14)
def mX6_weightOf_6 (a1 : Int64) (o0 : Nat) (a3 : Int64) (J6 : Int64 → Int32 → St → Option (Int64 × St)) (y1 : Int64) (y2 : Int32) (s3 : St) : Option (Int64 × St) := if (36 : Int32) ≤ y2 then (some (y1, s3)) else (cl2 (mX7_has a1 y2 s3) (fun x5 s4 => kl (mX6_weightOf_56 J6) (fun J56 => if x5 = 0 then (J56 y1 y2 s4) else (cl2 (mX3_chanceAt o0 y2 s4) (fun x10 s9 => cl2 (mX7_has a3 y2 s9) (fun x12 s11 => kl (mX6_weightOf_53 y1 J56 y2) (fun J53 => if x12 = 0 then (J53 (((10 : Int32) - x10).toInt64) s11) else (J53 (x10.toInt64) s11))))))))
def mX6_weightOf (o0 : Nat) (a1 : Int64) (a3 : Int64) (s0 : St) : Option (Int64 × St) := kl (lp (fun _ _ _ => none) (mX6_weightOf_6 a1 o0 a3) 2000) (fun J6 => J6 (1 : Int64) (0 : Int32) s0)
def mX6_likely_74 (J31 : Int64 → Int32 → St → Option (Int64 × St)) (y16 : Int64) (y17 : Int32) (s18 : St) : Option (Int64 × St) := J31 y16 ((y17 + 1)) s18
def mX6_likely_31 (x7 : Int32) (x4 : Int64) (x2 : Int64) (a1 : Int32) (a2 : Int32) (o0 : Nat) (J31 : Int64 → Int32 → St → Option (Int64 × St)) (y8 : Int64) (y9 : Int32) (s10 : St) : Option (Int64 × St) := if x7 ≤ y9 then (some (y8, s10)) else (cl2 (mX6_passableOf x4 y9 s10) (fun x12 s11 => kl ((x2 ||| x12)) (fun x13 => cl2 (mX7_stepsBetween a1 a2 x13 s11) (fun x15 s14 => kl (mX6_likely_74 J31) (fun J74 => if x15 = (-4 : Int32) then (J74 y8 y9 s14) else (cl2 (mX6_weightOf o0 x4 x13 s14) (fun x20 s19 => kl ((y8 + x20)) (fun x21 => J74 x21 y9 s19))))))))
def mX6_likely (o0 : Nat) (a1 : Int32) (a2 : Int32) (s0 : St) : Option (Int64 × St) := cl2 (mX3_sureCells o0 s0) (fun x2 s1 => cl2 (mX3_unsureCells o0 s1) (fun x4 s3 => cl2 (mJ13_bitCount_95d88 x4 s3) (fun x6 s5 => kl (((1 : Int32) <<< ((if (8 : Int32) < x6 then (8 : Int32) else x6) &&& 31))) (fun x7 => kl (lp (fun _ _ _ => none) (mX6_likely_31 x7 x4 x2 a1 a2 o0) 2000) (fun J31 => J31 (0 : Int64) (0 : Int32) s5)))))
def mX7_leastOf_2 (a0 : Int64) (J2 : Int32 → St → Option (Int32 × St)) (y1 : Int32) (s2 : St) : Option (Int32 × St) := if (36 : Int32) ≤ y1 then (some ((-4 : Int32), s2)) else (cl2 (mX7_has a0 y1 s2) (fun x4 s3 => if x4 = 0 then (J2 ((y1 + 1)) s3) else (some (y1, s3))))
def mX7_leastOf (a0 : Int64) (s0 : St) : Option (Int32 × St) := kl (lp (fun _ _ => none) (mX7_leastOf_2 a0) 2000) (fun J2 => J2 (0 : Int32) s0)
def mX7_cellsWithin_11 (a1 : Int32) (a2 : Int64) (J11 : Int64 → Int32 → St → Option (Int64 × St)) (y4 : Int64) (y5 : Int32) (s6 : St) : Option (Int64 × St) := if a1 ≤ y5 then (some (y4, s6)) else (cl2 (mX7_spread y4 s6) (fun x8 s7 => kl ((x8 &&& a2)) (fun x9 => J11 x9 ((y5 + 1)) s7)))
def mX7_cellsWithin (a0 : Int32) (a1 : Int32) (a2 : Int64) (s0 : St) : Option (Int64 × St) := cl2 (mX7_bit a0 s0) (fun x2 s1 => kl ((x2 &&& a2)) (fun x3 => kl (lp (fun _ _ _ => none) (mX7_cellsWithin_11 a1 a2) 2000) (fun J11 => J11 x3 (0 : Int32) s1)))
def mX7_islandOf (a0 : Int32) (a1 : Int64) (s0 : St) : Option (Int64 × St) := cl2 (mX7_cellsWithin a0 (36 : Int32) a1 s0) (fun x2 s1 => some (x2, s1))
def mX7_islandsOf_40 (J8 : Int64 → Int32 → Int32 → St → Option (Int32 × St)) (y7 : Int64) (y8 : Int32) (y9 : Int32) (s10 : St) : Option (Int32 × St) := J8 y7 y8 ((y9 + 1)) s10
def mX7_islandsOf_8 (a0 : Int64) (J8 : Int64 → Int32 → Int32 → St → Option (Int32 × St)) (y1 : Int64) (y2 : Int32) (y3 : Int32) (s4 : St) : Option (Int32 × St) := if (36 : Int32) ≤ y3 then (some (y2, s4)) else (cl2 (mX7_has y1 y3 s4) (fun x6 s5 => kl (mX7_islandsOf_40 J8) (fun J40 => if x6 = 0 then (J40 y1 y2 y3 s5) else (cl2 (mX7_islandOf y3 a0 s5) (fun x12 s11 => kl ((y1 &&& (x12 ^^^ (-1 : Int64)))) (fun x13 => J40 x13 ((y2 + 1)) y3 s11))))))
def mX7_islandsOf (a0 : Int64) (s0 : St) : Option (Int32 × St) := kl (lp (fun _ _ _ _ => none) (mX7_islandsOf_8 a0) 2000) (fun J8 => J8 a0 (0 : Int32) (0 : Int32) s0)
def mX7_largestIsland_58 (J8 : Int64 → Int64 → Int32 → St → Option (Int64 × St)) (y7 : Int64) (y8 : Int64) (y9 : Int32) (s10 : St) : Option (Int64 × St) := J8 y7 y8 ((y9 + 1)) s10
def mX7_largestIsland_8 (a0 : Int64) (J8 : Int64 → Int64 → Int32 → St → Option (Int64 × St)) (y1 : Int64) (y2 : Int64) (y3 : Int32) (s4 : St) : Option (Int64 × St) := if (36 : Int32) ≤ y3 then (some (y2, s4)) else (cl2 (mX7_has y1 y3 s4) (fun x6 s5 => kl (mX7_largestIsland_58 J8) (fun J58 => if x6 = 0 then (J58 y1 y2 y3 s5) else (cl2 (mX7_islandOf y3 a0 s5) (fun x12 s11 => kl ((y1 &&& (x12 ^^^ (-1 : Int64)))) (fun x13 => cl2 (mJ13_bitCount_95d88 x12 s11) (fun x15 s14 => cl2 (mJ13_bitCount_95d88 y2 s14) (fun x17 s16 => if x15 ≤ x17 then (J58 x13 y2 y3 s16) else (J58 x13 x12 y3 s16)))))))))
def mX7_largestIsland (a0 : Int64) (s0 : St) : Option (Int64 × St) := kl (lp (fun _ _ _ _ => none) (mX7_largestIsland_8 a0) 2000) (fun J8 => J8 a0 (0 : Int64) (0 : Int32) s0)
def mX7_greatestSteps_10 (a1 : Int64) (J10 : Int64 → Int32 → St → Option (Int32 × St)) (y4 : Int64) (y5 : Int32) (s6 : St) : Option (Int32 × St) := if (36 : Int32) ≤ y5 then (some ((-4 : Int32), s6)) else (cl2 (mX7_spread y4 s6) (fun x8 s7 => kl ((x8 &&& a1)) (fun x9 => if (lg_cmp x9 y4) = 0 then (some (y5, s7)) else (J10 x9 ((y5 + 1)) s7))))
def mX7_greatestSteps (a0 : Int32) (a1 : Int64) (s0 : St) : Option (Int32 × St) := cl2 (mX7_bit a0 s0) (fun x2 s1 => kl ((x2 &&& a1)) (fun x3 => kl (lp (fun _ _ _ => none) (mX7_greatestSteps_10 a1) 2000) (fun J10 => J10 x3 (0 : Int32) s1)))
def mX7_middleOf_55 (J16 : Int32 → Int32 → Int32 → St → Option (Int32 × St)) (y9 : Int32) (y10 : Int32) (y11 : Int32) (s12 : St) : Option (Int32 × St) := J16 y9 y10 ((y11 + 1)) s12
def mX7_middleOf_16 (x2 : Int64) (a0 : Int64) (J16 : Int32 → Int32 → Int32 → St → Option (Int32 × St)) (y3 : Int32) (y4 : Int32) (y5 : Int32) (s6 : St) : Option (Int32 × St) := if (36 : Int32) ≤ y5 then (some (y3, s6)) else (cl2 (mX7_has x2 y5 s6) (fun x8 s7 => kl (mX7_middleOf_55 J16) (fun J55 => if x8 = 0 then (J55 y3 y4 y5 s7) else (cl2 (mX7_greatestSteps y5 a0 s7) (fun x14 s13 => if y4 ≤ x14 then (J55 y3 y4 y5 s13) else (J55 y5 x14 y5 s13))))))
def mX7_middleOf (a0 : Int64) (s0 : St) : Option (Int32 × St) := cl2 (mX7_largestIsland a0 s0) (fun x2 s1 => kl (lp (fun _ _ _ _ => none) (mX7_middleOf_16 x2 a0) 2000) (fun J16 => J16 (-4 : Int32) (36 : Int32) (0 : Int32) s1))
def mX8_digitsBehind (a0 : Int64) (s0 : St) : Option (Int32 × St) := if a0.toInt32 = (100 : Int32) then (some ((2 : Int32), s0)) else (if a0.toInt32 = (103 : Int32) then (some ((4 : Int32), s0)) else (if a0.toInt32 = (104 : Int32) then (some ((2 : Int32), s0)) else (if a0.toInt32 = (110 : Int32) then (some ((4 : Int32), s0)) else (if a0.toInt32 = (115 : Int32) then (some ((2 : Int32), s0)) else (if a0.toInt32 = (119 : Int32) then (some ((1 : Int32), s0)) else (some ((-1 : Int32), s0)))))))
def mX8_firstWrongByte_98 (o0 : Nat) (s5 : St) : Option (Int32 × St) := kl (gI s5 o0 4) (fun x6 => some (x6, s5))
def mX8_firstWrongByte_75 (J4 : Int32 → Int32 → St → Option (Int32 × St)) (y10 : Int32) (y11 : Int32) (s12 : St) : Option (Int32 × St) := J4 y10 ((y11 + 1)) s12
def mX8_firstWrongByte_4 (o0 : Nat) (J4 : Int32 → Int32 → St → Option (Int32 × St)) (y1 : Int32) (y2 : Int32) (s3 : St) : Option (Int32 × St) := kl (gI s3 o0 4) (fun x4 => if x4 ≤ y2 then (kl (mX8_firstWrongByte_98 o0) (fun J98 => if y1 = (-1 : Int32) then (kl (gI s3 o0 4) (fun x7 => if x7 ≤ 0 then (J98 s3) else (some ((-4 : Int32), s3)))) else (J98 s3))) else (cl2 (mX5_numberAt o0 y2 s3) (fun x9 s8 => kl (mX8_firstWrongByte_75 J4) (fun J75 => if y1 = (-1 : Int32) then (cl2 (mX8_digitsBehind x9 s8) (fun x14 s13 => if x14 = (-1 : Int32) then (some (y2, s13)) else (J75 x14 y2 s13))) else (if y1 = 0 then (if (lg_cmp x9 (59 : Int64)) = 0 then (J75 (-1 : Int32) y2 s8) else (some (y2, s8))) else (if (lg_cmp x9 (48 : Int64)) < 0 then (some (y2, s8)) else (if (lg_cmp x9 (57 : Int64)) ≤ 0 then (J75 ((y1 + (-1))) y2 s8) else (some (y2, s8)))))))))
def mX8_firstWrongByte (o0 : Nat) (s0 : St) : Option (Int32 × St) := kl (lp (fun _ _ _ => none) (mX8_firstWrongByte_4 o0) 2000) (fun J4 => J4 (-1 : Int32) (0 : Int32) s0)
def mX8_statementsOf_27 (J4 : Int32 → Int32 → St → Option (Int32 × St)) (y7 : Int32) (y8 : Int32) (s9 : St) : Option (Int32 × St) := J4 y7 ((y8 + 1)) s9
def mX8_statementsOf_4 (o0 : Nat) (J4 : Int32 → Int32 → St → Option (Int32 × St)) (y1 : Int32) (y2 : Int32) (s3 : St) : Option (Int32 × St) := kl (gI s3 o0 4) (fun x4 => if x4 ≤ y2 then (some (y1, s3)) else (cl2 (mX5_numberAt o0 y2 s3) (fun x6 s5 => kl (mX8_statementsOf_27 J4) (fun J27 => if (lg_cmp x6 (59 : Int64)) = 0 then (J27 ((y1 + 1)) y2 s5) else (J27 y1 y2 s5)))))
def mX8_statementsOf (o0 : Nat) (s0 : St) : Option (Int32 × St) := kl (lp (fun _ _ _ => none) (mX8_statementsOf_4 o0) 2000) (fun J4 => J4 (0 : Int32) (0 : Int32) s0)
def mX8_digitAt (o0 : Nat) (a1 : Int32) (s0 : St) : Option (Int32 × St) := cl2 (mX5_numberAt o0 a1 s0) (fun x2 s1 => some ((x2.toInt32 - (48 : Int32)), s1))
def mX8_twoDigitsAt (o0 : Nat) (a1 : Int32) (s0 : St) : Option (Int32 × St) := cl2 (mX8_digitAt o0 a1 s0) (fun x2 s1 => cl2 (mX8_digitAt o0 (a1 + (1 : Int32)) s1) (fun x4 s3 => some ((((10 : Int32) * x2) + x4), s3)))
def mX8_isLaid (o0 : Nat) (a1 : Int32) (o2 : Nat) (s0 : St) : Option (Int32 × St) := cl2 (mX8_digitAt o0 (a1 + (1 : Int32)) s0) (fun x2 s1 => cl2 (mX8_twoDigitsAt o0 (a1 + (3 : Int32)) s1) (fun x4 s3 => cl2 (mX2_isKind x2 s3) (fun x6 s5 => if x6 = 0 then (rz (0 : Int32) s5) else (cl2 (mX10_isCell (x4.toInt64) s5) (fun x8 s7 => if x8 = 0 then (rz (0 : Int32) s7) else (cl2 (mX8_digitAt o0 (a1 + (2 : Int32)) s7) (fun x10 s9 => cl1 (mX3_layAt o2 x4 x2 x10 s9) (fun s11 => rz (1 : Int32) s11))))))))
def mX8_isPlaced (a0 : Int32) (a1 : Int32) (o2 : Nat) (s0 : St) : Option (Int32 × St) := cl2 (mX3_isOpen o2 a1 s0) (fun x2 s1 => if x2 = 0 then (rz (0 : Int32) s1) else (cl1 (mX3_place o2 a0 a1 s1) (fun s3 => rz (1 : Int32) s3)))
def mX10_isDistance (a0 : Int32) (s0 : St) : Option (Int32 × St) := if a0 < 0 then (rz (0 : Int32) s0) else (if (20 : Int32) < a0 then (rz (0 : Int32) s0) else (rz (1 : Int32) s0))
def mX8_isBound (o0 : Nat) (a1 : Int32) (o2 : Nat) (s0 : St) : Option (Int32 × St) := cl2 (mX8_twoDigitsAt o0 (a1 + (1 : Int32)) s0) (fun x2 s1 => cl2 (mX8_twoDigitsAt o0 (a1 + (3 : Int32)) s1) (fun x4 s3 => cl2 (mX10_isDistance x2 s3) (fun x6 s5 => if x6 = 0 then (rz (0 : Int32) s5) else (cl2 (mX10_isDistance x4 s5) (fun x8 s7 => if x8 = 0 then (rz (0 : Int32) s7) else (kl (pI s7 o2 3 x2) (fun s9 => kl (pI s9 o2 4 x4) (fun s10 => rz (1 : Int32) s10))))))))
def mX10_isEither_9 (s1 : St) : Option (Int32 × St) := rz (1 : Int32) s1
def mX10_isEither (a0 : Int32) (s0 : St) : Option (Int32 × St) := kl (mX10_isEither_9) (fun J9 => if a0 = 0 then (J9 s0) else (if a0 = (1 : Int32) then (J9 s0) else (rz (0 : Int32) s0)))
def mX8_isWintered (a0 : Int32) (o1 : Nat) (s0 : St) : Option (Int32 × St) := cl2 (mX10_isEither a0 s0) (fun x2 s1 => if x2 = 0 then (rz (0 : Int32) s1) else (kl (pI s1 o1 2 a0) (fun s3 => rz (1 : Int32) s3)))
def mX8_isDone (o0 : Nat) (a1 : Int32) (o2 : Nat) (s0 : St) : Option (Int32 × St) := cl2 (mX5_numberAt o0 a1 s0) (fun x2 s1 => if x2.toInt32 = (100 : Int32) then (cl2 (mX8_digitAt o0 (a1 + (1 : Int32)) s1) (fun x4 s3 => cl2 (mX8_digitAt o0 (a1 + (2 : Int32)) s3) (fun x6 s5 => cl2 (mX3_goDay o2 x4 x6 s5) (fun x8 s7 => rz x8 s7)))) else (if x2.toInt32 = (103 : Int32) then (cl2 (mX8_isLaid o0 a1 o2 s1) (fun x10 s9 => rz x10 s9)) else (if x2.toInt32 = (104 : Int32) then (cl2 (mX8_twoDigitsAt o0 (a1 + (1 : Int32)) s1) (fun x12 s11 => cl2 (mX8_isPlaced (0 : Int32) x12 o2 s11) (fun x14 s13 => rz x14 s13))) else (if x2.toInt32 = (110 : Int32) then (cl2 (mX8_isBound o0 a1 o2 s1) (fun x16 s15 => rz x16 s15)) else (if x2.toInt32 = (115 : Int32) then (cl2 (mX8_twoDigitsAt o0 (a1 + (1 : Int32)) s1) (fun x18 s17 => cl2 (mX8_isPlaced (1 : Int32) x18 o2 s17) (fun x20 s19 => rz x20 s19))) else (if x2.toInt32 = (119 : Int32) then (cl2 (mX8_digitAt o0 (a1 + (1 : Int32)) s1) (fun x22 s21 => cl2 (mX8_isWintered x22 o2 s21) (fun x24 s23 => rz x24 s23))) else (rz (0 : Int32) s1)))))))
def mX8_firstNotDone_49 (J2 : Int32 → St → Option (Int32 × St)) (y6 : Int32) (s7 : St) : Option (Int32 × St) := J2 ((y6 + 1)) s7
def mX8_firstNotDone_33 (J2 : Int32 → St → Option (Int32 × St)) (y1 : Int32) (o0 : Nat) (o1 : Nat) (y4 : Int32) (s5 : St) : Option (Int32 × St) := kl (mX8_firstNotDone_49 J2) (fun J49 => if y4 = 0 then (J49 y1 s5) else (cl2 (mX8_isDone o0 y1 o1 s5) (fun x9 s8 => if x9 = 0 then (some (y1, s8)) else (J49 y1 s8))))
def mX8_firstNotDone_28 (J33 : Int32 → St → Option (Int32 × St)) (s10 : St) : Option (Int32 × St) := J33 (1 : Int32) s10
def mX8_firstNotDone_2 (o0 : Nat) (o1 : Nat) (J2 : Int32 → St → Option (Int32 × St)) (y1 : Int32) (s2 : St) : Option (Int32 × St) := kl (gI s2 o0 4) (fun x3 => if x3 ≤ y1 then (some ((-4 : Int32), s2)) else (kl (mX8_firstNotDone_33 J2 y1 o0 o1) (fun J33 => kl (mX8_firstNotDone_28 J33) (fun J28 => if y1 = 0 then (J28 s2) else (cl2 (mX5_numberAt o0 (y1 - (1 : Int32)) s2) (fun x12 s11 => if (lg_cmp x12 (59 : Int64)) = 0 then (J28 s11) else (J33 (0 : Int32) s11)))))))
def mX8_firstNotDone (o0 : Nat) (o1 : Nat) (s0 : St) : Option (Int32 × St) := kl (lp (fun _ _ => none) (mX8_firstNotDone_2 o0 o1) 2000) (fun J2 => J2 (0 : Int32) s0)
def mX9_isOfCells_2 (o0 : Nat) (J2 : Int32 → St → Option (Int32 × St)) (y1 : Int32) (s2 : St) : Option (Int32 × St) := kl (gI s2 o0 4) (fun x3 => if x3 ≤ y1 then (kl (gI s2 o0 4) (fun x4 => if x4 ≤ 0 then (rz (0 : Int32) s2) else (rz (1 : Int32) s2))) else (cl2 (mX5_numberAt o0 y1 s2) (fun x6 s5 => cl2 (mX10_isCell x6 s5) (fun x8 s7 => if x8 = 0 then (rz (0 : Int32) s7) else (J2 ((y1 + 1)) s7)))))
def mX9_isOfCells (o0 : Nat) (s0 : St) : Option (Int32 × St) := kl (lp (fun _ _ => none) (mX9_isOfCells_2 o0) 2000) (fun J2 => J2 (0 : Int32) s0)
def mX9_firstWrongPlace_110 (J17 : Int64 → Int32 → St → Option (Int32 × St)) (y16 : Int64) (y17 : Int32) (s18 : St) : Option (Int32 × St) := J17 y16 ((y17 + 1)) s18
def mX9_firstWrongPlace_97 (y12 : Int64) (y7 : Int32) (J110 : Int64 → Int32 → St → Option (Int32 × St)) (y23 : Int64) (s24 : St) : Option (Int32 × St) := kl ((y12 &&& y23)) (fun x25 => if (lg_cmp x25 (0 : Int64)) = 0 then (some (y7, s24)) else (J110 x25 y7 s24))
def mX9_firstWrongPlace_79 (y12 : Int64) (y7 : Int32) (J110 : Int64 → Int32 → St → Option (Int32 × St)) (x2 : Int64) (y21 : Int64) (s22 : St) : Option (Int32 × St) := kl (mX9_firstWrongPlace_97 y12 y7 J110) (fun J97 => if y7 ≤ 0 then (J97 y21 s22) else (J97 ((y21 &&& x2)) s22))
def mX9_firstWrongPlace_51 (o0 : Nat) (J17 : Int64 → Int32 → St → Option (Int32 × St)) (x11 : Int64) (y7 : Int32) (x2 : Int64) (y12 : Int64) (s13 : St) : Option (Int32 × St) := cl2 (mX5_leastNumber o0 s13) (fun x15 s14 => kl (mX9_firstWrongPlace_110 J17) (fun J110 => if (lg_cmp x11 x15) = 0 then (J110 y12 y7 s14) else (cl2 (mX10_isCell x11 s14) (fun x20 s19 => kl (mX9_firstWrongPlace_79 y12 y7 J110 x2) (fun J79 => if x20 = 0 then (J79 (0 : Int64) s19) else (cl2 (mX7_bit (x11.toInt32) s19) (fun x27 s26 => J79 x27 s26)))))))
def mX9_firstWrongPlace_17 (o0 : Nat) (x2 : Int64) (J17 : Int64 → Int32 → St → Option (Int32 × St)) (y6 : Int64) (y7 : Int32) (s8 : St) : Option (Int32 × St) := kl (gI s8 o0 4) (fun x9 => if x9 ≤ y7 then (some ((-4 : Int32), s8)) else (cl2 (mX5_numberAt o0 y7 s8) (fun x11 s10 => kl (mX9_firstWrongPlace_51 o0 J17 x11 y7 x2) (fun J51 => if y7 ≤ 0 then (J51 y6 s10) else (cl2 (mX7_spread y6 s10) (fun x29 s28 => kl ((y6 ||| (x29 &&& x2))) (fun x30 => J51 x30 s28)))))))
def mX9_firstWrongPlace (o0 : Nat) (o1 : Nat) (s0 : St) : Option (Int32 × St) := cl2 (mX3_openCells o1 s0) (fun x2 s1 => kl (gI s1 o1 5) (fun x3 => cl2 (mX7_bit x3 s1) (fun x5 s4 => kl (lp (fun _ _ _ => none) (mX9_firstWrongPlace_17 o0 x2) 2000) (fun J17 => J17 x5 (0 : Int32) s4))))
def mX9_fitOn (o0 : Nat) (a1 : Int32) (a3 : Int64) (s0 : St) : Option (Int64 × St) := cl2 (mX5_numberAt o0 a1 s0) (fun x2 s1 => cl2 (mX0_nearOf (x2.toInt32) s1) (fun x4 s3 => some ((x4 &&& a3), s3)))
def mX9_follow_53 (y1 : Int64) (s5 : St) : Option (Int64 × St) := some (y1, s5)
def mX9_follow_6 (o1 : Nat) (a3 : Int64) (J6 : Int64 → Int32 → St → Option (Int64 × St)) (y1 : Int64) (y2 : Int32) (s3 : St) : Option (Int64 × St) := kl (gI s3 o1 4) (fun x4 => kl (mX9_follow_53 y1) (fun J53 => if x4 ≤ y2 then (J53 s3) else (if (100 : Int32) ≤ y2 then (J53 s3) else (cl2 (mX7_spread y1 s3) (fun x7 s6 => cl2 (mX9_fitOn o1 y2 a3 s6) (fun x9 s8 => kl ((x7 &&& x9)) (fun x10 => stL s8 39 100 y2 x10 (fun s11 => J6 x10 ((y2 + 1)) s11))))))))
def mX9_follow (o1 : Nat) (a3 : Int64) (s0 : St) : Option (Int64 × St) := kl (lp (fun _ _ _ => none) (mX9_follow_6 o1 a3) 2000) (fun J6 => J6 a3 (0 : Int32) s0)
def mX9_leftAround_38 (J5 : Int64 → Int32 → St → Option (Int64 × St)) (y8 : Int64) (y9 : Int32) (s10 : St) : Option (Int64 × St) := J5 y8 ((y9 + 1)) s10
def mX9_leftAround_5 (a1 : Int32) (J5 : Int64 → Int32 → St → Option (Int64 × St)) (y1 : Int64) (y2 : Int32) (s3 : St) : Option (Int64 × St) := if (5 : Int32) ≤ y2 then (some (y1, s3)) else (cl2 (mX7_cellTo a1 y2 s3) (fun x5 s4 => cl2 (mX10_isCell (x5.toInt64) s4) (fun x7 s6 => kl (mX9_leftAround_38 J5) (fun J38 => if x7 = 0 then (J38 y1 y2 s6) else (ldL s6 40 36 x5 (fun x11 => kl ((y1 ||| x11)) (fun x12 => J38 x12 y2 s6)))))))
def mX9_leftAround (a1 : Int32) (s0 : St) : Option (Int64 × St) := kl (lp (fun _ _ _ => none) (mX9_leftAround_5 a1) 2000) (fun J5 => J5 (0 : Int64) (0 : Int32) s0)
def mX9_worstOf_36 (J5 : Int32 → Int32 → St → Option (Int32 × St)) (y6 : Int32) (y7 : Int32) (s8 : St) : Option (Int32 × St) := J5 y6 ((y7 + 1)) s8
def mX9_worstOf_5 (a1 : Int64) (J5 : Int32 → Int32 → St → Option (Int32 × St)) (y1 : Int32) (y2 : Int32) (s3 : St) : Option (Int32 × St) := if (36 : Int32) ≤ y2 then (some (y1, s3)) else (cl2 (mX7_has a1 y2 s3) (fun x5 s4 => kl (mX9_worstOf_36 J5) (fun J36 => if x5 = 0 then (J36 y1 y2 s4) else (ldL s4 40 36 y2 (fun x9 => cl2 (mJ13_bitCount_95d88 x9 s4) (fun x11 s10 => kl ((if y1 < x11 then x11 else y1)) (fun x12 => J36 x12 y2 s10)))))))
def mX9_worstOf (a1 : Int64) (s0 : St) : Option (Int32 × St) := kl (lp (fun _ _ _ => none) (mX9_worstOf_5 a1) 2000) (fun J5 => J5 (0 : Int32) (0 : Int32) s0)
def mX9_bestDay_156 (J25 : Int32 → Int32 → Int32 → St → Option (Int32 × St)) (y16 : Int32) (y17 : Int32) (y18 : Int32) (s19 : St) : Option (Int32 × St) := J25 y16 y17 ((y18 + (-1))) s19
def mX9_bestDay_121 (y11 : Int32) (J87 : Int32 → St → Option (Int32 × St)) (y22 : Int64) (s23 : St) : Option (Int32 × St) := stL s23 40 36 y11 y22 (fun s24 => J87 ((y11 + 1)) s24)
def mX9_bestDay_87 (y5 : Int32) (J25 : Int32 → Int32 → Int32 → St → Option (Int32 × St)) (y4 : Int32) (y3 : Int32) (x8 : Int64) (J87 : Int32 → St → Option (Int32 × St)) (y11 : Int32) (s12 : St) : Option (Int32 × St) := if (36 : Int32) ≤ y11 then (ldL s12 39 100 y5 (fun x13 => cl2 (mX9_worstOf x13 s12) (fun x15 s14 => kl (mX9_bestDay_156 J25) (fun J156 => if y4 < x15 then (J156 y3 y4 y5 s14) else (J156 y5 x15 y5 s14))))) else (cl2 (mX7_has x8 y11 s12) (fun x21 s20 => kl (mX9_bestDay_121 y11 J87) (fun J121 => if x21 = 0 then (J121 (0 : Int64) s20) else (ldL s20 41 36 y11 (fun x25 => J121 x25 s20)))))
def mX9_bestDay_77 (y9 : Int32) (J43 : Int32 → St → Option (Int32 × St)) (y26 : Int64) (s27 : St) : Option (Int32 × St) := stL s27 41 36 y9 y26 (fun s28 => J43 ((y9 + 1)) s28)
def mX9_bestDay_43 (y5 : Int32) (J25 : Int32 → Int32 → Int32 → St → Option (Int32 × St)) (y4 : Int32) (y3 : Int32) (x8 : Int64) (x2 : Int32) (J43 : Int32 → St → Option (Int32 × St)) (y9 : Int32) (s10 : St) : Option (Int32 × St) := if (36 : Int32) ≤ y9 then (kl (lp (fun _ _ => none) (mX9_bestDay_87 y5 J25 y4 y3 x8) 2000) (fun J87 => J87 (0 : Int32) s10)) else (kl (mX9_bestDay_77 y9 J43) (fun J77 => if y5 = x2 then (cl2 (mX7_bit y9 s10) (fun x32 s31 => J77 x32 s31)) else (cl2 (mX9_leftAround y9 s10) (fun x30 s29 => J77 x30 s29))))
def mX9_bestDay_25 (o1 : Nat) (a3 : Int64) (x2 : Int32) (J25 : Int32 → Int32 → Int32 → St → Option (Int32 × St)) (y3 : Int32) (y4 : Int32) (y5 : Int32) (s6 : St) : Option (Int32 × St) := if y5 < 0 then (some (y3, s6)) else (cl2 (mX9_fitOn o1 y5 a3 s6) (fun x8 s7 => kl (lp (fun _ _ => none) (mX9_bestDay_43 y5 J25 y4 y3 x8 x2) 2000) (fun J43 => J43 (0 : Int32) s7)))
def mX9_bestDay (o1 : Nat) (a3 : Int64) (s0 : St) : Option (Int32 × St) := kl (gI s0 o1 4) (fun x1 => kl (((if (100 : Int32) < x1 then (100 : Int32) else x1) - (1 : Int32))) (fun x2 => kl (lp (fun _ _ _ _ => none) (mX9_bestDay_25 o1 a3 x2) 2000) (fun J25 => J25 (-4 : Int32) (37 : Int32) x2 s0)))
def mX10_isShelf (a0 : Int32) (s0 : St) : Option (Int32 × St) := if a0 < 0 then (rz (0 : Int32) s0) else (if (8 : Int32) ≤ a0 then (rz (0 : Int32) s0) else (rz (1 : Int32) s0))
def mX10_shelfAt_22 (s1 : St) : Option (Nat × St) := some (18, s1)
def mX10_shelfAt (a1 : Int32) (s0 : St) : Option (Nat × St) := kl (mX10_shelfAt_22) (fun J22 => if a1 < 0 then (J22 s0) else (if (8 : Int32) ≤ a1 then (J22 s0) else (ldR a1 (fun n2 => some (n2, s0)))))
def mX10_refusalUnless (a1 : Int32) (a2 : Int32) (s0 : St) : Option (Int32 × St) := cl2 (mX10_isShelf a1 s0) (fun x2 s1 => if x2 = 0 then (some ((-1 : Int32), s1)) else (cl2 (mX10_shelfAt a1 s1) (fun n4 s3 => kl (gI s3 n4 0) (fun x5 => if x5 = 0 then (some ((-11 : Int32), s3)) else (cl2 (mX10_shelfAt a1 s3) (fun n7 s6 => kl (gI s6 n7 0) (fun x8 => if x8 = a2 then (some ((0 : Int32), s6)) else (some ((-12 : Int32), s6)))))))))
def mX10_refusalOfRow (a1 : Int32) (s0 : St) : Option (Int32 × St) := cl2 (mX10_refusalUnless a1 (2 : Int32) s0) (fun x2 s1 => some (x2, s1))
def mX10_land (a1 : Int32) (s0 : St) : Option (Int32 × St) := cl2 (mX10_refusalOfRow a1 s0) (fun x2 s1 => if x2 = 0 then (cl2 (mX10_shelfAt a1 s1) (fun n4 s3 => kl (gI s3 n4 3) (fun x5 => if x5 = 0 then (cl2 (mX8_firstWrongByte n4 s3) (fun x7 s6 => if x7 = (-4 : Int32) then (cl1 (mX3_becomes 3 1 s6) (fun s8 => cl2 (mX8_firstNotDone n4 3 s8) (fun x10 s9 => if x10 = (-4 : Int32) then (cl1 (mX3_becomes 1 3 s9) (fun s11 => cl2 (mX8_statementsOf n4 s11) (fun x13 s12 => some (x13, s12)))) else (some (((-2000 : Int32) - x10), s9))))) else (some (((-1000 : Int32) - x7), s6)))) else (some ((-12 : Int32), s3))))) else (some (x2, s1)))
def mX10_ground (a1 : Int32) (a2 : Int32) (s0 : St) : Option (Int32 × St) := cl2 (mX10_isCell (a1.toInt64) s0) (fun x2 s1 => if x2 = 0 then (some ((-1 : Int32), s1)) else (if a2 = (0 : Int32) then (cl2 (mX3_kindAt 1 a1 s1) (fun x4 s3 => some (x4, s3))) else (if a2 = (1 : Int32) then (cl2 (mX3_figureAt 1 a1 s1) (fun x6 s5 => some (x6, s5))) else (if a2 = (2 : Int32) then (cl2 (mX3_heightAt 1 a1 s1) (fun x8 s7 => some (x8, s7))) else (if a2 = (3 : Int32) then (cl2 (mX3_isOpen 1 a1 s1) (fun x10 s9 => if x10 = 0 then (some ((0 : Int32), s9)) else (some ((1 : Int32), s9)))) else (if a2 = (4 : Int32) then (cl2 (mX3_chanceAt 1 a1 s1) (fun x12 s11 => some (x12, s11))) else (some ((-1 : Int32), s1))))))))
def mX10_refusalOfGround (a1 : Int32) (s0 : St) : Option (Int32 × St) := cl2 (mX10_refusalUnless a1 (1 : Int32) s0) (fun x2 s1 => some (x2, s1))
def mX10_lays_17 (a2 : Int32) (a1 : Int32) (y3 : Int32) (s4 : St) : Option (Int32 × St) := if y3 = 0 then (cl2 (mX3_kindAt 1 a2 s4) (fun x6 s5 => cl2 (mX10_shelfAt a1 s5) (fun n8 s7 => kl (gI s7 n8 1) (fun x9 => cl2 (mX10_shelfAt a1 s7) (fun n11 s10 => kl (gI s10 n11 2) (fun x12 => cl1 (mX3_layAt 1 a2 x9 x12 s10) (fun s13 => some (x6, s13)))))))) else (some (y3, s4))
def mX10_lays (a1 : Int32) (a2 : Int32) (s0 : St) : Option (Int32 × St) := cl2 (mX10_isCell (a2.toInt64) s0) (fun x2 s1 => kl (mX10_lays_17 a2 a1) (fun J17 => if x2 = 0 then (J17 (-1 : Int32) s1) else (cl2 (mX10_refusalOfGround a1 s1) (fun x15 s14 => J17 x15 s14))))
def mX10_stands_52 (a1 : Int32) (a2 : Int32) (y7 : Int32) (s8 : St) : Option (Int32 × St) := cl1 (mX3_place 1 a1 a2 s8) (fun s9 => some (y7, s9))
def mX10_stands (a1 : Int32) (a2 : Int32) (s0 : St) : Option (Int32 × St) := cl2 (mX10_isEither a1 s0) (fun x2 s1 => if x2 = 0 then (some ((-1 : Int32), s1)) else (cl2 (mX10_isCell (a2.toInt64) s1) (fun x4 s3 => if x4 = 0 then (some ((-1 : Int32), s3)) else (cl2 (mX3_isOpen 1 a2 s3) (fun x6 s5 => if x6 = 0 then (some ((-3 : Int32), s5)) else (kl (mX10_stands_52 a1 a2) (fun J52 => if a1 = 0 then (kl (gI s5 1 5) (fun x11 => J52 x11 s5)) else (kl (gI s5 1 6) (fun x10 => J52 x10 s5)))))))))
def mX10_set_92 (s3 : St) : Option (Int32 × St) := some ((-1 : Int32), s3)
def mX10_set_61 (a1 : Int32) (a2 : Int32) (s2 : St) : Option (Int32 × St) := kl (mX10_set_92) (fun J92 => if a1 = (2 : Int32) then (cl2 (mX10_isEither a2 s2) (fun x5 s4 => if x5 = 0 then (J92 s4) else (kl (gI s4 1 2) (fun x6 => kl (pI s4 1 2 a2) (fun s7 => some (x6, s7)))))) else (J92 s2))
def mX10_set_30 (a1 : Int32) (a2 : Int32) (s1 : St) : Option (Int32 × St) := kl (mX10_set_61 a1 a2) (fun J61 => if a1 = (1 : Int32) then (cl2 (mX10_isDistance a2 s1) (fun x9 s8 => if x9 = 0 then (J61 s8) else (kl (gI s8 1 4) (fun x10 => kl (pI s8 1 4 a2) (fun s11 => some (x10, s11)))))) else (J61 s1))
def mX10_set (a1 : Int32) (a2 : Int32) (s0 : St) : Option (Int32 × St) := kl (mX10_set_30 a1 a2) (fun J30 => if a1 = 0 then (cl2 (mX10_isDistance a2 s0) (fun x13 s12 => if x13 = 0 then (J30 s12) else (kl (gI s12 1 3) (fun x14 => kl (pI s12 1 3 a2) (fun s15 => some (x14, s15)))))) else (J30 s0))
def mX10_go (a1 : Int32) (a2 : Int32) (s0 : St) : Option (Int32 × St) := cl2 (mX10_isWay a1 s0) (fun x2 s1 => if x2 = 0 then (some ((-1 : Int32), s1)) else (cl2 (mX10_isWay a2 s1) (fun x4 s3 => if x4 = 0 then (some ((-1 : Int32), s3)) else (cl2 (mX3_goDay 1 a1 a2 s3) (fun x6 s5 => if x6 = 0 then (some ((-3 : Int32), s5)) else (kl (gI s5 1 5) (fun x7 => kl (gI s5 1 6) (fun x8 => cl2 (mX3_farBetween 1 x7 x8 s5) (fun x10 s9 => some (x10, s9))))))))))
def mX10_far (a1 : Int32) (a2 : Int32) (s0 : St) : Option (Int32 × St) := cl2 (mX10_isCell (a1.toInt64) s0) (fun x2 s1 => if x2 = 0 then (some ((-1 : Int32), s1)) else (cl2 (mX10_isCell (a2.toInt64) s1) (fun x4 s3 => if x4 = 0 then (some ((-1 : Int32), s3)) else (cl2 (mX3_farBetween 1 a1 a2 s3) (fun x6 s5 => some (x6, s5))))))
def mX10_steps (a1 : Int32) (a2 : Int32) (s0 : St) : Option (Int32 × St) := cl2 (mX10_isCell (a1.toInt64) s0) (fun x2 s1 => if x2 = 0 then (some ((-1 : Int32), s1)) else (cl2 (mX10_isCell (a2.toInt64) s1) (fun x4 s3 => if x4 = 0 then (some ((-1 : Int32), s3)) else (cl2 (mX3_openCells 1 s3) (fun x6 s5 => cl2 (mX7_stepsBetween a1 a2 x6 s5) (fun x8 s7 => some (x8, s7)))))))
def mX10_pairs (a1 : Int32) (s0 : St) : Option (Int32 × St) := if (-1 : Int32) ≤ a1 then (cl1 (mX0_lay 1 s0) (fun s1 => if a1 = (-1 : Int32) then (cl2 (mX0_pairsInAll s1) (fun x5 s4 => some (x5, s4))) else (cl2 (mX0_pairAt a1 s1) (fun x3 s2 => some (x3, s2))))) else (some ((-1 : Int32), s0))
def mX10_islands  (s0 : St) : Option (Int32 × St) := cl2 (mX3_openCells 1 s0) (fun x2 s1 => cl2 (mX7_islandsOf x2 s1) (fun x4 s3 => some (x4, s3)))
def mX10_island (a1 : Int32) (s0 : St) : Option (Int32 × St) := cl2 (mX10_isCell (a1.toInt64) s0) (fun x2 s1 => if x2 = 0 then (some ((-1 : Int32), s1)) else (cl2 (mX3_openCells 1 s1) (fun x4 s3 => cl2 (mX7_has x4 a1 s3) (fun x6 s5 => if x6 = 0 then (some ((-3 : Int32), s5)) else (cl2 (mX7_islandOf a1 x4 s5) (fun x8 s7 => cl2 (mJ13_bitCount_95d88 x8 s7) (fun x10 s9 => some (x10, s9))))))))
def mX10_middle_34 (x6 : Int32) (s7 : St) : Option (Int32 × St) := some (x6, s7)
def mX10_middle (a1 : Int32) (s0 : St) : Option (Int32 × St) := cl2 (mX10_isEither a1 s0) (fun x2 s1 => if x2 = 0 then (some ((-1 : Int32), s1)) else (cl2 (mX3_openCells 1 s1) (fun x4 s3 => cl2 (mX7_middleOf x4 s3) (fun x6 s5 => kl (mX10_middle_34 x6) (fun J34 => if a1 = 0 then (J34 s5) else (if x6 = (-4 : Int32) then (J34 s5) else (cl2 (mX7_greatestSteps x6 x4 s5) (fun x9 s8 => some (x9, s8)))))))))
def mX10_refusalToSee (a1 : Int32) (a2 : Int32) (s0 : St) : Option (Int32 × St) := cl2 (mX10_isCell (a1.toInt64) s0) (fun x2 s1 => if x2 = 0 then (some ((-1 : Int32), s1)) else (cl2 (mX10_isCell (a2.toInt64) s1) (fun x4 s3 => if x4 = 0 then (some ((-1 : Int32), s3)) else (cl2 (mX3_bothStand 1 s3) (fun x6 s5 => if x6 = 0 then (some ((-3 : Int32), s5)) else (some ((0 : Int32), s5)))))))
def mX10_see (a1 : Int32) (a2 : Int32) (s0 : St) : Option (Int32 × St) := cl2 (mX10_refusalToSee a1 a2 s0) (fun x2 s1 => if x2 = 0 then (cl1 (mX0_lay 1 s1) (fun s3 => kl (gI s3 1 5) (fun x4 => kl (gI s3 1 6) (fun x5 => cl2 (mX0_daysBetween x4 x5 a1 a2 s3) (fun x7 s6 => some (x7, s6)))))) else (some (x2, s1)))
def mX10_way_73 (s8 : St) : Option (Int32 × St) := some ((-4 : Int32), s8)
def mX10_way_14 (a1 : Int32) (a2 : Int32) (a3 : Int32) (y1 : Int32) (s2 : St) : Option (Int32 × St) := if y1 = 0 then (cl1 (mX0_lay 1 s2) (fun s3 => kl (gI s3 1 5) (fun x4 => kl (gI s3 1 6) (fun x5 => cl2 (mX0_daysBetween x4 x5 a1 a2 s3) (fun x7 s6 => kl (mX10_way_73) (fun J73 => if x7 = (-4 : Int32) then (J73 s6) else (if a3 ≤ x7 then (kl (gI s6 1 5) (fun x9 => kl (gI s6 1 6) (fun x10 => cl2 (mX0_pairOnWay x9 x10 a3 s6) (fun x12 s11 => some (x12, s11))))) else (J73 s6)))))))) else (some (y1, s2))
def mX10_way (a1 : Int32) (a2 : Int32) (a3 : Int32) (s0 : St) : Option (Int32 × St) := kl (mX10_way_14 a1 a2 a3) (fun J14 => if 0 ≤ a3 then (cl2 (mX10_refusalToSee a1 a2 s0) (fun x14 s13 => J14 x14 s13)) else (J14 (-1 : Int32) s0))
def mX10_hinders_155 (J76 : Int32 → Int32 → Int32 → St → Option (Int32 × St)) (y16 : Int32) (y17 : Int32) (y18 : Int32) (s19 : St) : Option (Int32 × St) := J76 y16 y17 ((y18 + 1)) s19
def mX10_hinders_76 (x9 : Int64) (a1 : Int32) (a2 : Int32) (J76 : Int32 → Int32 → Int32 → St → Option (Int32 × St)) (y10 : Int32) (y11 : Int32) (y12 : Int32) (s13 : St) : Option (Int32 × St) := if (36 : Int32) ≤ y12 then (some (y10, s13)) else (cl2 (mX7_has x9 y12 s13) (fun x15 s14 => kl (mX10_hinders_155 J76) (fun J155 => if x15 = 0 then (cl2 (mX7_bit y12 s14) (fun x21 s20 => cl1 (mX0_admit (x9 ||| x21) s20) (fun s22 => kl (gI s22 1 5) (fun x23 => kl (gI s22 1 6) (fun x24 => cl2 (mX0_daysBetween x23 x24 a1 a2 s22) (fun x26 s25 => if x26 = (-4 : Int32) then (J155 y10 y11 y12 s25) else (if y11 ≤ x26 then (J155 y10 y11 y12 s25) else (J155 y12 x26 y12 s25)))))))) else (J155 y10 y11 y12 s14))))
def mX10_hinders (a1 : Int32) (a2 : Int32) (s0 : St) : Option (Int32 × St) := cl2 (mX10_refusalToSee a1 a2 s0) (fun x2 s1 => if x2 = 0 then (cl1 (mX0_lay 1 s1) (fun s3 => kl (gI s3 1 5) (fun x4 => kl (gI s3 1 6) (fun x5 => cl2 (mX0_daysBetween x4 x5 a1 a2 s3) (fun x7 s6 => if x7 = (-4 : Int32) then (cl2 (mX3_openCells 1 s6) (fun x9 s8 => kl (lp (fun _ _ _ _ => none) (mX10_hinders_76 x9 a1 a2) 2000) (fun J76 => J76 (-4 : Int32) (1296 : Int32) (0 : Int32) s8))) else (some ((-4 : Int32), s6))))))) else (some (x2, s1)))
def mX10_needs_36 (x5 : Int64) (a1 : Int32) (a2 : Int32) (J36 : Int32 → St → Option (Int32 × St)) (y6 : Int32) (s7 : St) : Option (Int32 × St) := if (20 : Int32) < y6 then (some ((-4 : Int32), s7)) else (kl (gI s7 1 3) (fun x8 => cl1 (mX0_bound x8 y6 s7) (fun s9 => cl1 (mX0_admit x5 s9) (fun s10 => kl (gI s10 1 5) (fun x11 => kl (gI s10 1 6) (fun x12 => cl2 (mX0_daysBetween x11 x12 a1 a2 s10) (fun x14 s13 => if x14 = (-4 : Int32) then (J36 ((y6 + 1)) s13) else (some (y6, s13)))))))))
def mX10_needs (a1 : Int32) (a2 : Int32) (s0 : St) : Option (Int32 × St) := cl2 (mX10_refusalToSee a1 a2 s0) (fun x2 s1 => if x2 = 0 then (cl1 (mX0_lay 1 s1) (fun s3 => cl2 (mX3_openCells 1 s3) (fun x5 s4 => kl (lp (fun _ _ => none) (mX10_needs_36 x5 a1 a2) 2000) (fun J36 => J36 (0 : Int32) s4)))) else (some (x2, s1)))
def mX10_within (a1 : Int32) (s0 : St) : Option (Int32 × St) := if a1 < 0 then (some ((-1 : Int32), s0)) else (if a1 ≤ (40 : Int32) then (cl2 (mX3_bothStand 1 s0) (fun x2 s1 => if x2 = 0 then (some ((-3 : Int32), s1)) else (cl1 (mX0_lay 1 s1) (fun s3 => kl (gI s3 1 5) (fun x4 => kl (gI s3 1 6) (fun x5 => cl2 (mX0_pairsWithin x4 x5 a1 s3) (fun x7 s6 => some (x7, s6)))))))) else (some ((-1 : Int32), s0)))
def mX10_refusalToCount (a1 : Int32) (s0 : St) : Option (Int32 × St) := if a1 < 0 then (some ((-1 : Int32), s0)) else (if a1 ≤ (10 : Int32) then (cl2 (mX3_bothStand 1 s0) (fun x2 s1 => if x2 = 0 then (some ((-3 : Int32), s1)) else (some ((0 : Int32), s1)))) else (some ((-1 : Int32), s0)))
def mX10_ofLongs (a0 : Int32) (s0 : St) : Option (Int64 × St) := some ((a0.toInt64 - (1000000000 : Int64)), s0)
def mX10_ways (a1 : Int32) (s0 : St) : Option (Int64 × St) := cl2 (mX10_refusalToCount a1 s0) (fun x2 s1 => if x2 = 0 then (cl1 (mX0_lay 1 s1) (fun s3 => kl (gI s3 1 5) (fun x4 => kl (gI s3 1 6) (fun x5 => cl1 (mX0_walk x4 x5 a1 s3) (fun s6 => cl2 (mX0_walksInAll s6) (fun x8 s7 => some (x8, s7))))))) else (cl2 (mX10_ofLongs x2 s1) (fun x10 s9 => some (x10, s9))))
def mX10_rounds (a1 : Int32) (s0 : St) : Option (Int64 × St) := cl2 (mX10_refusalToCount a1 s0) (fun x2 s1 => if x2 = 0 then (cl1 (mX0_lay 1 s1) (fun s3 => kl (gI s3 1 5) (fun x4 => kl (gI s3 1 6) (fun x5 => cl1 (mX0_walk x4 x5 a1 s3) (fun s6 => kl (gI s6 1 5) (fun x7 => kl (gI s6 1 6) (fun x8 => cl2 (mX0_walksTo x7 x8 s6) (fun x10 s9 => some (x10, s9))))))))) else (cl2 (mX10_ofLongs x2 s1) (fun x12 s11 => some (x12, s11))))
def mX10_late_138 (J78 : Int32 → Int32 → St → Option (Int32 × St)) (y17 : Int32) (y18 : Int32) (s19 : St) : Option (Int32 × St) := J78 y17 ((y18 + 1)) s19
def mX10_late_78 (x10 : Int64) (J78 : Int32 → Int32 → St → Option (Int32 × St)) (y11 : Int32) (y12 : Int32) (s13 : St) : Option (Int32 × St) := if (5 : Int32) ≤ y12 then (some (y11, s13)) else (kl (gI s13 1 5) (fun x14 => cl2 (mX3_cellBy 1 x14 y12 s13) (fun x16 s15 => kl (mX10_late_138 J78) (fun J138 => if x16 = (-4 : Int32) then (J138 y11 y12 s15) else (cl2 (mX0_nearOf x16 s15) (fun x21 s20 => if (lg_cmp (x10 &&& (x21 ^^^ (-1 : Int64))) (0 : Int64)) = 0 then (kl ((y11 ||| ((1 : Int32) <<< (y12 &&& 31)))) (fun x22 => J138 x22 y12 s20)) else (J138 y11 y12 s20)))))))
def mX10_late (a1 : Int32) (a2 : Int32) (s0 : St) : Option (Int32 × St) := cl2 (mX10_isCell (a1.toInt64) s0) (fun x2 s1 => if x2 = 0 then (some ((-1 : Int32), s1)) else (if a2 < 0 then (some ((-1 : Int32), s1)) else (if a2 ≤ (8 : Int32) then (kl (gI s1 1 5) (fun x3 => if x3 = (-4 : Int32) then (some ((-3 : Int32), s1)) else (cl2 (mX3_isOpen 1 a1 s1) (fun x5 s4 => if x5 = 0 then (some ((-3 : Int32), s4)) else (cl1 (mX0_lay 1 s4) (fun s6 => cl2 (mX3_openCells 1 s6) (fun x8 s7 => cl2 (mX7_cellsWithin a1 (a2 + (1 : Int32)) x8 s7) (fun x10 s9 => kl (lp (fun _ _ _ => none) (mX10_late_78 x10) 2000) (fun J78 => J78 (0 : Int32) (0 : Int32) s9))))))))) else (some ((-1 : Int32), s1)))))
def mX10_refusalOfTrack (a1 : Int32) (s0 : St) : Option (Int32 × St) := cl2 (mX10_refusalOfRow a1 s0) (fun x2 s1 => if x2 = 0 then (cl2 (mX10_shelfAt a1 s1) (fun n4 s3 => cl2 (mX9_isOfCells n4 s3) (fun x6 s5 => if x6 = 0 then (some ((-13 : Int32), s5)) else (some ((0 : Int32), s5))))) else (some (x2, s1)))
def mX10_hisWay_16 (a1 : Int32) (a2 : Int32) (y3 : Int32) (s4 : St) : Option (Int64 × St) := if y3 = 0 then (cl1 (mX0_lay 1 s4) (fun s5 => cl2 (mX10_shelfAt a1 s5) (fun n7 s6 => cl2 (mX3_openCells 1 s6) (fun x9 s8 => cl2 (mX9_follow n7 x9 s8) (fun x11 s10 => if a2 = 0 then (some (x11, s10)) else (cl2 (mJ13_bitCount_95d88 x11 s10) (fun x13 s12 => some (x13.toInt64, s12)))))))) else (cl2 (mX10_ofLongs y3 s4) (fun x15 s14 => some (x15, s14)))
def mX10_hisWay (a1 : Int32) (a2 : Int32) (s0 : St) : Option (Int64 × St) := cl2 (mX10_isEither a2 s0) (fun x2 s1 => kl (mX10_hisWay_16 a1 a2) (fun J16 => if x2 = 0 then (J16 (-1 : Int32) s1) else (cl2 (mX10_refusalOfTrack a1 s1) (fun x17 s16 => J16 x17 s16))))
def mX10_letter (a1 : Int32) (s0 : St) : Option (Int32 × St) := cl2 (mX10_refusalOfTrack a1 s0) (fun x2 s1 => if x2 = 0 then (cl1 (mX0_lay 1 s1) (fun s3 => cl2 (mX10_shelfAt a1 s3) (fun n5 s4 => cl2 (mX3_openCells 1 s4) (fun x7 s6 => cl2 (mX9_follow n5 x7 s6) (fun x9 s8 => if (lg_cmp x9 (0 : Int64)) = 0 then (some ((-4 : Int32), s8)) else (cl2 (mX10_shelfAt a1 s8) (fun n11 s10 => cl2 (mX3_openCells 1 s10) (fun x13 s12 => cl2 (mX9_bestDay n11 x13 s12) (fun x15 s14 => some (x15, s14)))))))))) else (some (x2, s1)))
def mX10_third (a1 : Int32) (s0 : St) : Option (Int32 × St) := cl2 (mX10_isEither a1 s0) (fun x2 s1 => if x2 = 0 then (some ((-1 : Int32), s1)) else (cl2 (mX3_bothStand 1 s1) (fun x4 s3 => if x4 = 0 then (some ((-3 : Int32), s3)) else (cl1 (mX0_lay 1 s3) (fun s5 => kl (gI s5 1 5) (fun x6 => cl2 (mX0_nearOf x6 s5) (fun x8 s7 => kl (gI s7 1 6) (fun x9 => cl2 (mX0_nearOf x9 s7) (fun x11 s10 => cl2 (mX3_openCells 1 s10) (fun x13 s12 => kl (((x8 &&& x11) &&& x13)) (fun x14 => if a1 = 0 then (cl2 (mJ13_bitCount_95d88 x14 s12) (fun x18 s17 => some (x18, s17))) else (cl2 (mX7_leastOf x14 s12) (fun x16 s15 => some (x16, s15))))))))))))))
def mX10_game (a1 : Int32) (s0 : St) : Option (Int32 × St) := cl2 (mX10_isEither a1 s0) (fun x2 s1 => if x2 = 0 then (some ((-1 : Int32), s1)) else (cl2 (mX3_bothStand 1 s1) (fun x4 s3 => if x4 = 0 then (some ((-3 : Int32), s3)) else (cl1 (mX4_lay 1 s3) (fun s5 => if a1 = 0 then (cl2 (mX4_firstHeld s5) (fun x9 s8 => some (x9, s8))) else (cl2 (mX4_leastSure s5) (fun x7 s6 => some (x7, s6))))))))
def mX10_snow_23 (s3 : St) : Option (Int64 × St) := cl2 (mX10_ofLongs (-1 : Int32) s3) (fun x5 s4 => some (x5, s4))
def mX10_snow_59 (x13 : Int32) (a1 : Int32) (a2 : Int32) (a3 : Int32) (J59 : Int64 → Int32 → St → Option (Int64 × St)) (y14 : Int64) (y15 : Int32) (s16 : St) : Option (Int64 × St) := if x13 ≤ y15 then (cl2 (mX6_likely 1 a1 a2 s16) (fun x18 s17 => cl2 (mX1_partOf x18 y14 a3 s17) (fun x20 s19 => some (x20, s19)))) else (kl ((y14 * (10 : Int64))) (fun x21 => J59 x21 ((y15 + 1)) s16))
def mX10_snow (a1 : Int32) (a2 : Int32) (a3 : Int32) (s0 : St) : Option (Int64 × St) := cl2 (mX10_isCell (a1.toInt64) s0) (fun x2 s1 => kl (mX10_snow_23) (fun J23 => if x2 = 0 then (J23 s1) else (cl2 (mX10_isCell (a2.toInt64) s1) (fun x7 s6 => if x7 = 0 then (J23 s6) else (cl2 (mX10_isEither a3 s6) (fun x9 s8 => if x9 = 0 then (J23 s8) else (cl2 (mX3_unsureCells 1 s8) (fun x11 s10 => cl2 (mJ13_bitCount_95d88 x11 s10) (fun x13 s12 => if x13 ≤ (8 : Int32) then (kl (lp (fun _ _ _ => none) (mX10_snow_59 x13 a1 a2 a3) 2000) (fun J59 => J59 (1 : Int64) (0 : Int32) s12)) else (cl2 (mX10_ofLongs (-3 : Int32) s12) (fun x23 s22 => some (x23, s22))))))))))))
def mX10_mean (a1 : Int32) (s0 : St) : Option (Int64 × St) := cl2 (mX10_isEither a1 s0) (fun x2 s1 => if x2 = 0 then (cl2 (mX10_ofLongs (-1 : Int32) s1) (fun x11 s10 => some (x11, s10))) else (cl1 (mX0_lay 1 s1) (fun s3 => cl2 (mX0_farsInAll s3) (fun x5 s4 => cl2 (mX0_pairsInAll s4) (fun x7 s6 => cl2 (mX1_partOf x5 (x7.toInt64) a1 s6) (fun x9 s8 => some (x9, s8)))))))
def mX10_curve (a1 : Int32) (s0 : St) : Option (Int32 × St) := cl2 (mX10_isDistance a1 s0) (fun x2 s1 => if x2 = 0 then (some ((-1 : Int32), s1)) else (cl1 (mX0_lay 1 s1) (fun s3 => kl (gI s3 1 3) (fun x4 => cl1 (mX0_bound x4 a1 s3) (fun s5 => cl2 (mX3_openCells 1 s5) (fun x7 s6 => cl1 (mX0_admit x7 s6) (fun s8 => cl2 (mX0_pairsInAll s8) (fun x10 s9 => some (x10, s9)))))))))
def mX10_judge (a1 : Int32) (s0 : St) : Option (Int32 × St) := cl2 (mX10_isShelf a1 s0) (fun x2 s1 => if x2 = 0 then (some ((-1 : Int32), s1)) else (kl (gI s1 1 5) (fun x3 => if x3 = (-4 : Int32) then (some ((-3 : Int32), s1)) else (cl2 (mX10_refusalOfRow a1 s1) (fun x5 s4 => if x5 = 0 then (cl2 (mX10_shelfAt a1 s4) (fun n7 s6 => cl2 (mX9_firstWrongPlace n7 1 s6) (fun x9 s8 => some (x9, s8)))) else (some (x5, s4)))))))
def mX10_nextSeed (a0 : Int32) (s0 : St) : Option (Int32 × St) := some (((a0 * (1103515245 : Int32)) + (12345 : Int32)), s0)
def mX10_drawOf (a0 : Int32) (s0 : St) : Option (Int32 × St) := some ((((a0 &&& (2147483647 : Int32)) / (65536 : Int32)) - ((a0 &&& (2147483647 : Int32)) / (65536 : Int32)) / (5 : Int32) * (5 : Int32)), s0)
def mX10_seeds_103 (J66 : Int32 → Int32 → St → Option (Int32 × St)) (y9 : Int32) (J103 : Int32 → Int32 → St → Option (Int32 × St)) (y17 : Int32) (y18 : Int32) (s19 : St) : Option (Int32 × St) := if (20 : Int32) ≤ y18 then (J66 y17 ((y9 + 1)) s19) else (cl2 (mX10_nextSeed y17 s19) (fun x21 s20 => kl (gI s20 3 5) (fun x22 => cl2 (mX10_drawOf x21 s20) (fun x24 s23 => cl2 (mX3_cellByOrStay 3 x22 x24 s23) (fun x26 s25 => cl2 (mX10_nextSeed x21 s25) (fun x28 s27 => kl (gI s27 3 6) (fun x29 => cl2 (mX10_drawOf x28 s27) (fun x31 s30 => cl2 (mX3_cellByOrStay 3 x29 x31 s30) (fun x33 s32 => cl1 (mX3_endDay 3 x26 x33 s32) (fun s34 => J103 x28 ((y18 + 1)) s34))))))))))
def mX10_seeds_66 (a1 : Int32) (a3 : Int32) (J66 : Int32 → Int32 → St → Option (Int32 × St)) (y8 : Int32) (y9 : Int32) (s10 : St) : Option (Int32 × St) := if a1 ≤ y9 then (if a3 = 0 then (kl (gI s10 3 8) (fun x12 => some (x12, s10))) else (kl (gI s10 3 9) (fun x11 => some (x11, s10)))) else (kl (gI s10 1 5) (fun x13 => kl (pI s10 3 5 x13) (fun s14 => kl (gI s14 1 6) (fun x15 => kl (pI s14 3 6 x15) (fun s16 => kl (lp (fun _ _ _ => none) (mX10_seeds_103 J66 y9) 2000) (fun J103 => J103 y8 (0 : Int32) s16))))))
def mX10_seeds (a1 : Int32) (a2 : Int32) (a3 : Int32) (s0 : St) : Option (Int32 × St) := if a1 < (1 : Int32) then (some ((-1 : Int32), s0)) else (if (20 : Int32) < a1 then (some ((-1 : Int32), s0)) else (cl2 (mX10_isEither a3 s0) (fun x2 s1 => if x2 = 0 then (some ((-1 : Int32), s1)) else (cl2 (mX3_bothStand 1 s1) (fun x4 s3 => if x4 = 0 then (some ((-3 : Int32), s3)) else (cl1 (mX3_becomes 3 1 s3) (fun s5 => kl (pI s5 3 8 (0 : Int32)) (fun s6 => kl (pI s6 3 9 (0 : Int32)) (fun s7 => kl (lp (fun _ _ _ => none) (mX10_seeds_66 a1 a3) 2000) (fun J66 => J66 a2 (0 : Int32) s7))))))))))
def mX10_image  (s0 : St) : Option (Int32 × St) := cl1 (mX3_becomes 2 1 s0) (fun s1 => stZ s1 0 3 (1 : Int32) (fun s2 => kl (gI s2 1 7) (fun x3 => some (x3, s2))))
def mX10_restore  (s0 : St) : Option (Int32 × St) := kl (gI s0 0 3) (fun x1 => if x1 = 0 then (some ((-3 : Int32), s0)) else (cl1 (mX3_becomes 1 2 s0) (fun s2 => kl (gI s2 1 7) (fun x3 => some (x3, s2)))))
def mX10_count (a1 : Int32) (s0 : St) : Option (Int32 × St) := if a1 = (0 : Int32) then (kl (gI s0 1 5) (fun x1 => some (x1, s0))) else (if a1 = (1 : Int32) then (kl (gI s0 1 6) (fun x2 => some (x2, s0))) else (if a1 = (2 : Int32) then (kl (gI s0 1 7) (fun x3 => some (x3, s0))) else (if a1 = (3 : Int32) then (kl (gI s0 1 8) (fun x4 => some (x4, s0))) else (if a1 = (4 : Int32) then (kl (gI s0 1 9) (fun x5 => some (x5, s0))) else (if a1 = (5 : Int32) then (kl (gI s0 1 3) (fun x6 => some (x6, s0))) else (if a1 = (6 : Int32) then (kl (gI s0 1 4) (fun x7 => some (x7, s0))) else (if a1 = (7 : Int32) then (kl (gI s0 1 2) (fun x8 => some (x8, s0))) else (if a1 = (8 : Int32) then (cl2 (mX3_openCells 1 s0) (fun x10 s9 => cl2 (mJ13_bitCount_95d88 x10 s9) (fun x12 s11 => some (x12, s11)))) else (some ((-1 : Int32), s0))))))))))
def mX10_keep (a1 : Int32) (a2 : Int32) (a3 : Int32) (a4 : Int32) (s0 : St) : Option (Int32 × St) := cl2 (mX10_isShelf a1 s0) (fun x2 s1 => if x2 = 0 then (some ((-1 : Int32), s1)) else (cl2 (mX10_isEither a2 s1) (fun x4 s3 => if x4 = 0 then (some ((-1 : Int32), s3)) else (if a2 = 0 then (cl2 (mX10_shelfAt a1 s3) (fun n11 s10 => kl (pI s10 n11 0 (0 : Int32)) (fun s12 => some ((0 : Int32), s12)))) else (cl2 (mX2_isKind a3 s3) (fun x6 s5 => if x6 = 0 then (some ((-1 : Int32), s5)) else (if a4 < 0 then (some ((-1 : Int32), s5)) else (if a4 ≤ (9 : Int32) then (cl2 (mX10_shelfAt a1 s5) (fun n8 s7 => cl1 (mX5_takeGround n8 a3 a4 s7) (fun s9 => some ((0 : Int32), s9)))) else (some ((-1 : Int32), s5))))))))))
def mX10_row (a1 : Int32) (a2 : Int32) (a3 : Int32) (s0 : St) : Option (Int32 × St) := cl2 (mX10_isShelf a1 s0) (fun x2 s1 => if x2 = 0 then (some ((-1 : Int32), s1)) else (if a2 < 0 then (some ((-1 : Int32), s1)) else (if (2 : Int32) < a2 then (some ((-1 : Int32), s1)) else (if a3 ≤ (100 : Int32) then (if 0 ≤ a3 then (cl2 (mX10_shelfAt a1 s1) (fun n4 s3 => cl1 (mX5_takeRow n4 a2 a3 s3) (fun s5 => some ((0 : Int32), s5)))) else (some ((-14 : Int32), s1))) else (some ((-1 : Int32), s1))))))
def mX10_put (a1 : Int32) (a2 : Int32) (a3 : Int32) (s0 : St) : Option (Int32 × St) := cl2 (mX10_refusalOfRow a1 s0) (fun x2 s1 => if x2 = 0 then (cl2 (mX10_shelfAt a1 s1) (fun n4 s3 => cl2 (mX5_hasPlace n4 a2 s3) (fun x6 s5 => if x6 = 0 then (some ((-13 : Int32), s5)) else (cl2 (mX10_shelfAt a1 s5) (fun n8 s7 => cl1 (mX5_write n8 a2 a3 s7) (fun s9 => some ((0 : Int32), s9))))))) else (some (x2, s1)))
def mX10_copy (a1 : Int32) (a2 : Int32) (a3 : Int32) (a4 : Int32) (a5 : Int32) (s0 : St) : Option (Int32 × St) := cl2 (mX10_isShelf a1 s0) (fun x2 s1 => if x2 = 0 then (some ((-1 : Int32), s1)) else (cl2 (mX10_isShelf a3 s1) (fun x4 s3 => if x4 = 0 then (some ((-1 : Int32), s3)) else (cl2 (mX10_shelfAt a1 s3) (fun n6 s5 => cl2 (mX10_shelfAt a3 s5) (fun n8 s7 => kl (gI s7 n6 0) (fun x9 => if x9 = 0 then (some ((-11 : Int32), s7)) else (kl (gI s7 n8 0) (fun x10 => if x10 = 0 then (some ((-11 : Int32), s7)) else (kl (gI s7 n6 0) (fun x11 => if x11 = (2 : Int32) then (kl (gI s7 n8 0) (fun x12 => if x12 = (2 : Int32) then (kl (gI s7 n6 3) (fun x13 => kl (gI s7 n8 3) (fun x14 => if x13 = x14 then (cl2 (mX5_hasPlaces n6 a2 a5 s7) (fun x16 s15 => if x16 = 0 then (some ((-13 : Int32), s15)) else (cl2 (mX5_hasPlaces n8 a4 a5 s15) (fun x18 s17 => if x18 = 0 then (some ((-13 : Int32), s17)) else (cpL s17 (n6 + 9) 100 a2 (n8 + 9) 100 a4 a5 (fun s19 => some (a5, s19))))))) else (some ((-12 : Int32), s7))))) else (some ((-12 : Int32), s7)))) else (some ((-12 : Int32), s7)))))))))))))
def mX10_cost (a1 : Int32) (s0 : St) : Option (Int32 × St) := cl2 (mX10_refusalOfGround a1 s0) (fun x2 s1 => if x2 = 0 then (cl2 (mX10_shelfAt a1 s1) (fun n4 s3 => kl (gI s3 n4 1) (fun x5 => cl2 (mX10_shelfAt a1 s3) (fun n7 s6 => kl (gI s6 n7 2) (fun x8 => cl2 (mX2_costOf x5 x8 s6) (fun x10 s9 => some (x10, s9))))))) else (some (x2, s1)))
def mX11_thrown  (s0 : St) : Option (Int32 × St) := kl (gI s0 45 16) (fun x1 => some (x1, s0))
def mX11_in (a0 : Int64) (a2 : Int64) (a4 : Int64) (s0 : St) : Option (Int32 × St) := if (lg_cmp a0 a2) < 0 then (rz (0 : Int32) s0) else (if 0 < (lg_cmp a0 a4) then (rz (0 : Int32) s0) else (rz (1 : Int32) s0))
def mX11_isCell (a0 : Int64) (s0 : St) : Option (Int32 × St) := cl2 (mX11_in a0 (0 : Int64) (35 : Int64) s0) (fun x2 s1 => rz x2 s1)
def mX11_plainly (a0 : Int32) (s0 : St) : Option (Int32 × St) := if 0 ≤ a0 then (some (a0, s0)) else (some ((-a0), s0))
def mX11_isOn (a0 : Int64) (a2 : Int32) (s0 : St) : Option (Int32 × St) := if (lg_cmp ((a0 >>> (a2.toInt64 &&& 63)) &&& (1 : Int64)) (1 : Int64)) = 0 then (rz (1 : Int32) s0) else (rz (0 : Int32) s0)
def mX11_onesOf_4 (J4 : Int32 → Int64 → St → Option (Int32 × St)) (y1 : Int32) (y2 : Int64) (s3 : St) : Option (Int32 × St) := if (lg_cmp y2 (0 : Int64)) = 0 then (some (y1, s3)) else (kl ((y2 &&& (y2 - (1 : Int64)))) (fun x4 => J4 ((y1 + 1)) x4 s3))
def mX11_onesOf (a0 : Int64) (s0 : St) : Option (Int32 × St) := kl (lp (fun _ _ _ => none) (mX11_onesOf_4) 2000) (fun J4 => J4 (0 : Int32) a0 s0)
def mX11_heightOf (a1 : Int32) (s0 : St) : Option (Int32 × St) := ldA s0 46 36 a1 (fun x1 => if x1 = (2 : Int32) then (some ((2 : Int32), s0)) else (if x1 = (3 : Int32) then (ldA s0 47 36 a1 (fun x2 => some (((2 : Int32) + x2), s0))) else (if x1 = (4 : Int32) then (ldA s0 47 36 a1 (fun x3 => some ((((2 : Int32) + x3) / (2 : Int32)), s0))) else (if x1 = (6 : Int32) then (some ((1 : Int32), s0)) else (some ((0 : Int32), s0))))))
def mX11_isOpen_74 (s5 : St) : Option (Int32 × St) := rz (1 : Int32) s5
def mX11_isOpen (a1 : Int32) (s0 : St) : Option (Int32 × St) := kl (gI s0 45 17) (fun x1 => if a1 = x1 then (rz (1 : Int32) s0) else (ldA s0 46 36 a1 (fun x2 => if x2 = (3 : Int32) then (kl (gI s0 45 2) (fun x3 => if x3 = 0 then (rz (1 : Int32) s0) else (rz (0 : Int32) s0))) else (if x2 = (4 : Int32) then (kl (gI s0 45 2) (fun x4 => kl (mX11_isOpen_74) (fun J74 => if x4 = 0 then (J74 s0) else (ldA s0 47 36 a1 (fun x6 => if (4 : Int32) < x6 then (rz (0 : Int32) s0) else (J74 s0)))))) else (if x2 = (5 : Int32) then (kl (gI s0 45 2) (fun x7 => if x7 = (1 : Int32) then (rz (1 : Int32) s0) else (rz (0 : Int32) s0))) else (rz (1 : Int32) s0))))))
def mX11_chanceOf (a1 : Int32) (s0 : St) : Option (Int32 × St) := ldA s0 46 36 a1 (fun x1 => if x1 = (2 : Int32) then (some ((9 : Int32), s0)) else (if x1 = (3 : Int32) then (some ((5 : Int32), s0)) else (if x1 = (4 : Int32) then (ldA s0 47 36 a1 (fun x2 => some (((5 : Int32) + (x2 / (3 : Int32))), s0))) else (if x1 = (5 : Int32) then (some ((0 : Int32), s0)) else (if x1 = (6 : Int32) then (some ((8 : Int32), s0)) else (if x1 = (7 : Int32) then (ldA s0 47 36 a1 (fun x3 => some (((10 : Int32) - x3), s0))) else (some ((10 : Int32), s0))))))))
def mX11_farOf (a1 : Int32) (a2 : Int32) (s0 : St) : Option (Int32 × St) := cl2 (mX11_plainly ((a1 / (6 : Int32)) - (a2 / (6 : Int32))) s0) (fun x2 s1 => cl2 (mX11_plainly ((a1 - a1 / (6 : Int32) * (6 : Int32)) - (a2 - a2 / (6 : Int32) * (6 : Int32))) s1) (fun x4 s3 => cl2 (mX11_heightOf a1 s3) (fun x6 s5 => cl2 (mX11_heightOf a2 s5) (fun x8 s7 => cl2 (mX11_plainly (x6 - x8) s7) (fun x10 s9 => some (((x2 + x4) + (x10 / (2 : Int32))), s9))))))
def mX11_isOff_26 (s4 : St) : Option (Int32 × St) := rz (1 : Int32) s4
def mX11_isOff (a1 : Int32) (a2 : Int32) (s0 : St) : Option (Int32 × St) := cl2 (mX11_farOf a1 a2 s0) (fun x2 s1 => kl (gI s1 45 3) (fun x3 => kl (mX11_isOff_26) (fun J26 => if x2 < x3 then (J26 s1) else (cl2 (mX11_farOf a1 a2 s1) (fun x6 s5 => kl (gI s5 45 4) (fun x7 => if x6 ≤ x7 then (rz (0 : Int32) s5) else (J26 s5)))))))
def mX11_beside (a0 : Int32) (a1 : Int32) (s0 : St) : Option (Int32 × St) := if a1 = (1 : Int32) then (if (6 : Int32) ≤ a0 then (some ((a0 - (6 : Int32)), s0)) else (some ((-4 : Int32), s0))) else (if a1 = (2 : Int32) then (if (a0 - a0 / (6 : Int32) * (6 : Int32)) = 0 then (some ((-4 : Int32), s0)) else (some ((a0 - (1 : Int32)), s0))) else (if a1 = (3 : Int32) then (if (a0 - a0 / (6 : Int32) * (6 : Int32)) = (5 : Int32) then (some ((-4 : Int32), s0)) else (some ((a0 + (1 : Int32)), s0))) else (if a1 = (4 : Int32) then (if a0 ≤ (29 : Int32) then (some ((a0 + (6 : Int32)), s0)) else (some ((-4 : Int32), s0))) else (some (a0, s0)))))
def mX11_goneTo_22 (x2 : Int32) (s3 : St) : Option (Int32 × St) := some (x2, s3)
def mX11_goneTo (a1 : Int32) (a2 : Int32) (s0 : St) : Option (Int32 × St) := cl2 (mX11_beside a1 a2 s0) (fun x2 s1 => kl (mX11_goneTo_22 x2) (fun J22 => if a2 = 0 then (J22 s1) else (if x2 < 0 then (some ((-4 : Int32), s1)) else (cl2 (mX11_isOpen x2 s1) (fun x5 s4 => if x5 = 0 then (some ((-4 : Int32), s4)) else (J22 s4))))))
def mX11_openCells_26 (y1 : Int64) (J4 : Int64 → Int32 → St → Option (Int64 × St)) (y2 : Int32) (y6 : Int64) (s7 : St) : Option (Int64 × St) := kl ((y1 ||| y6)) (fun x8 => J4 x8 ((y2 + 1)) s7)
def mX11_openCells_4 (J4 : Int64 → Int32 → St → Option (Int64 × St)) (y1 : Int64) (y2 : Int32) (s3 : St) : Option (Int64 × St) := if (36 : Int32) ≤ y2 then (some (y1, s3)) else (cl2 (mX11_isOpen y2 s3) (fun x5 s4 => kl (mX11_openCells_26 y1 J4 y2) (fun J26 => if x5 = 0 then (J26 (0 : Int64) s4) else (J26 (((1 : Int64) <<< (y2.toInt64 &&& 63))) s4))))
def mX11_openCells  (s0 : St) : Option (Int64 × St) := kl (lp (fun _ _ _ => none) (mX11_openCells_4) 2000) (fun J4 => J4 (0 : Int64) (0 : Int32) s0)
def mX11_goOn_71 (J5 : Int64 → Int32 → St → Option (Int64 × St)) (y4 : Int64) (y7 : Int32) (s8 : St) : Option (Int64 × St) := J5 y4 ((y7 + 1)) s8
def mX11_goOn_63 (y4 : Int64) (J15 : Int64 → Int32 → St → Option (Int64 × St)) (y5 : Int32) (y13 : Int64) (s14 : St) : Option (Int64 × St) := kl ((y4 ||| y13)) (fun x15 => J15 x15 ((y5 + 1)) s14)
def mX11_goOn_62 (J63 : Int64 → St → Option (Int64 × St)) (s16 : St) : Option (Int64 × St) := J63 (0 : Int64) s16
def mX11_goOn_15 (J5 : Int64 → Int32 → St → Option (Int64 × St)) (y2 : Int32) (a1 : Int64) (J15 : Int64 → Int32 → St → Option (Int64 × St)) (y4 : Int64) (y5 : Int32) (s6 : St) : Option (Int64 × St) := kl (mX11_goOn_71 J5 y4) (fun J71 => if (5 : Int32) ≤ y5 then (J71 y2 s6) else (cl2 (mX11_isOn a1 y2 s6) (fun x10 s9 => if x10 = 0 then (J71 y2 s9) else (cl2 (mX11_goneTo y2 y5 s9) (fun x12 s11 => kl (mX11_goOn_63 y4 J15 y5) (fun J63 => kl (mX11_goOn_62 J63) (fun J62 => if x12 < 0 then (J62 s11) else (cl2 (mX11_isOpen x12 s11) (fun x18 s17 => if x18 = 0 then (J62 s17) else (J63 (((1 : Int64) <<< (x12.toInt64 &&& 63))) s17))))))))))
def mX11_goOn_5 (a1 : Int64) (J5 : Int64 → Int32 → St → Option (Int64 × St)) (y1 : Int64) (y2 : Int32) (s3 : St) : Option (Int64 × St) := if (36 : Int32) ≤ y2 then (some (y1, s3)) else (kl (lp (fun _ _ _ => none) (mX11_goOn_15 J5 y2 a1) 2000) (fun J15 => J15 y1 (0 : Int32) s3))
def mX11_goOn (a1 : Int64) (s0 : St) : Option (Int64 × St) := kl (lp (fun _ _ _ => none) (mX11_goOn_5 a1) 2000) (fun J5 => J5 (0 : Int64) (0 : Int32) s0)
def mX11_here  (s0 : St) : Option (Int32 × St) := kl (gI s0 45 19) (fun x1 => kl (gI s0 45 18) (fun x2 => ldA s0 52 8 x2 (fun x3 => if x3 ≤ x1 then (some ((-999 : Int32), s0)) else (kl (gI s0 45 18) (fun x4 => kl (gI s0 45 19) (fun x5 => ldL s0 53 800 (((100 : Int32) * x4) + x5) (fun x6 => some (x6.toInt32, s0))))))))
def mX11_readDigits_83 (x11 : Int32) (J4 : Int32 → Int32 → St → Option (Int32 × St)) (y9 : Int32) (y2 : Int32) (y13 : Int32) (s14 : St) : Option (Int32 × St) := kl (pI s14 45 19 (x11 + y13)) (fun s15 => J4 y9 ((y2 + 1)) s15)
def mX11_readDigits_65 (J4 : Int32 → Int32 → St → Option (Int32 × St)) (y2 : Int32) (y9 : Int32) (s10 : St) : Option (Int32 × St) := kl (gI s10 45 19) (fun x11 => kl (gI s10 45 20) (fun x12 => kl (mX11_readDigits_83 x11 J4 y9 y2) (fun J83 => if x12 = 0 then (J83 (1 : Int32) s10) else (J83 (0 : Int32) s10))))
def mX11_readDigits_39 (J4 : Int32 → Int32 → St → Option (Int32 × St)) (y2 : Int32) (y1 : Int32) (y5 : Int32) (s6 : St) : Option (Int32 × St) := stZ s6 45 20 y5 (fun s7 => kl (gI s7 45 20) (fun x8 => kl (mX11_readDigits_65 J4 y2) (fun J65 => if x8 = 0 then (cl2 (mX11_here s7) (fun x17 s16 => J65 (((((10 : Int32) * y1) + x17) - (48 : Int32))) s16)) else (J65 (0 : Int32) s7))))
def mX11_readDigits_34 (J39 : Int32 → St → Option (Int32 × St)) (s18 : St) : Option (Int32 × St) := J39 (1 : Int32) s18
def mX11_readDigits_4 (a1 : Int32) (J4 : Int32 → Int32 → St → Option (Int32 × St)) (y1 : Int32) (y2 : Int32) (s3 : St) : Option (Int32 × St) := if a1 ≤ y2 then (some (y1, s3)) else (kl (gI s3 45 20) (fun x4 => kl (mX11_readDigits_39 J4 y2 y1) (fun J39 => kl (mX11_readDigits_34 J39) (fun J34 => if x4 = 0 then (cl2 (mX11_here s3) (fun x20 s19 => cl2 (mX11_in (x20.toInt64) (48 : Int64) (57 : Int64) s19) (fun x22 s21 => if x22 = 0 then (J34 s21) else (J39 (0 : Int32) s21)))) else (J34 s3)))))
def mX11_readDigits (a1 : Int32) (s0 : St) : Option (Int32 × St) := kl (lp (fun _ _ _ => none) (mX11_readDigits_4 a1) 2000) (fun J4 => J4 (0 : Int32) (0 : Int32) s0)
def mX11_isLetter_36 (s1 : St) : Option (Int32 × St) := rz (1 : Int32) s1
def mX11_isLetter (a0 : Int32) (s0 : St) : Option (Int32 × St) := kl (mX11_isLetter_36) (fun J36 => if a0 = (103 : Int32) then (J36 s0) else (if a0 = (104 : Int32) then (J36 s0) else (if a0 = (115 : Int32) then (J36 s0) else (if a0 = (110 : Int32) then (J36 s0) else (if a0 = (119 : Int32) then (J36 s0) else (if a0 = (100 : Int32) then (J36 s0) else (rz (0 : Int32) s0)))))))
def mX11_readStatement_257 (x22 : Int32) (y24 : Int32) (s25 : St) : Option St := kl (pI s25 45 19 (x22 + y24)) (fun s26 => kl (gI s26 45 21) (fun x27 => kl (pI s26 45 21 (x27 + (1 : Int32))) (fun s28 => some s28)))
def mX11_readStatement_237 (y19 : Int32) (s20 : St) : Option St := stZ s20 45 20 y19 (fun s21 => kl (gI s21 45 19) (fun x22 => kl (gI s21 45 20) (fun x23 => kl (mX11_readStatement_257 x22) (fun J257 => if x23 = 0 then (J257 (1 : Int32) s21) else (J257 (0 : Int32) s21)))))
def mX11_readStatement_232 (J237 : Int32 → St → Option St) (s29 : St) : Option St := J237 (1 : Int32) s29
def mX11_readStatement_215 (s17 : St) : Option St := kl (gI s17 45 20) (fun x18 => kl (mX11_readStatement_237) (fun J237 => kl (mX11_readStatement_232 J237) (fun J232 => if x18 = 0 then (cl2 (mX11_here s17) (fun x31 s30 => if x31 = (59 : Int32) then (J237 (0 : Int32) s30) else (J232 s30))) else (J232 s17))))
def mX11_readStatement_214 (x4 : Int32) (J215 : St → Option St) (y36 : Int32) (s37 : St) : Option St := stA s37 56 153 (x4 + (1 : Int32)) y36 (fun s38 => J215 s38)
def mX11_readStatement_71 (x12 : Int32) (x3 : Int32) (x4 : Int32) (y14 : Int32) (s15 : St) : Option St := kl (pI s15 45 19 (x12 + y14)) (fun s16 => kl (mX11_readStatement_215) (fun J215 => if x3 = (103 : Int32) then (cl2 (mX11_readDigits (1 : Int32) s16) (fun x51 s50 => stA s50 56 153 x4 x51 (fun s52 => cl2 (mX11_readDigits (1 : Int32) s52) (fun x54 s53 => stA s53 56 153 (x4 + (1 : Int32)) x54 (fun s55 => cl2 (mX11_readDigits (2 : Int32) s55) (fun x57 s56 => stA s56 56 153 (x4 + (2 : Int32)) x57 (fun s58 => J215 s58))))))) else (if x3 = (119 : Int32) then (cl2 (mX11_readDigits (1 : Int32) s16) (fun x48 s47 => stA s47 56 153 x4 x48 (fun s49 => J215 s49))) else (if x3 = (100 : Int32) then (cl2 (mX11_readDigits (1 : Int32) s16) (fun x42 s41 => stA s41 56 153 x4 x42 (fun s43 => cl2 (mX11_readDigits (1 : Int32) s43) (fun x45 s44 => stA s44 56 153 (x4 + (1 : Int32)) x45 (fun s46 => J215 s46))))) else (kl (gI s16 45 20) (fun x32 => if x32 = 0 then (cl2 (mX11_readDigits (2 : Int32) s16) (fun x34 s33 => stA s33 56 153 x4 x34 (fun s35 => kl (mX11_readStatement_214 x4 J215) (fun J214 => if x3 = (110 : Int32) then (cl2 (mX11_readDigits (2 : Int32) s35) (fun x40 s39 => J214 x40 s39)) else (J214 (0 : Int32) s35))))) else (J215 s16)))))))
def mX11_readStatement_51 (x3 : Int32) (x4 : Int32) (y9 : Int32) (s10 : St) : Option St := stZ s10 45 20 y9 (fun s11 => kl (gI s11 45 19) (fun x12 => kl (gI s11 45 20) (fun x13 => kl (mX11_readStatement_71 x12 x3 x4) (fun J71 => if x13 = 0 then (J71 (1 : Int32) s11) else (J71 (0 : Int32) s11)))))
def mX11_readStatement_46 (J51 : Int32 → St → Option St) (s59 : St) : Option St := J51 (1 : Int32) s59
def mX11_readStatement  (s0 : St) : Option St := kl (gI s0 45 21) (fun x1 => cl2 (mX11_here s0) (fun x3 s2 => kl (((3 : Int32) * x1)) (fun x4 => kl (gI s2 45 19) (fun x5 => stA s2 54 51 x1 x5 (fun s6 => stA s6 55 51 x1 x3 (fun s7 => kl (gI s7 45 20) (fun x8 => kl (mX11_readStatement_51 x3 x4) (fun J51 => kl (mX11_readStatement_46 J51) (fun J46 => if x8 = 0 then (cl2 (mX11_isLetter x3 s7) (fun x61 s60 => if x61 = 0 then (J46 s60) else (J51 (0 : Int32) s60))) else (J46 s7))))))))))
def mX11_canGo (a1 : Int32) (a2 : Int32) (s0 : St) : Option (Int32 × St) := kl (gI s0 45 5) (fun x1 => if x1 < 0 then (rz (0 : Int32) s0) else (kl (gI s0 45 6) (fun x2 => if x2 < 0 then (rz (0 : Int32) s0) else (kl (gI s0 45 7) (fun x3 => if (999 : Int32) ≤ x3 then (rz (0 : Int32) s0) else (kl (gI s0 45 5) (fun x4 => cl2 (mX11_goneTo x4 a1 s0) (fun x6 s5 => if x6 < 0 then (rz (0 : Int32) s5) else (kl (gI s5 45 6) (fun x7 => cl2 (mX11_goneTo x7 a2 s5) (fun x9 s8 => if x9 < 0 then (rz (0 : Int32) s8) else (rz (1 : Int32) s8))))))))))))
def mX11_goBoth_90 (x18 : Int32) (y24 : Int32) (s25 : St) : Option St := kl (pI s25 45 9 (x18 + y24)) (fun s26 => kl (gI s26 45 7) (fun x27 => kl (pI s26 45 7 (x27 + (1 : Int32))) (fun s28 => some s28)))
def mX11_goBoth_57 (x9 : Int32) (y15 : Int32) (s16 : St) : Option St := kl (pI s16 45 8 (x9 + y15)) (fun s17 => kl (gI s17 45 9) (fun x18 => kl (gI s17 45 5) (fun x19 => kl (gI s17 45 6) (fun x20 => cl2 (mX11_farOf x19 x20 s17) (fun x22 s21 => kl (gI s21 45 4) (fun x23 => kl (mX11_goBoth_90 x18) (fun J90 => if x22 ≤ x23 then (J90 (0 : Int32) s21) else (J90 (1 : Int32) s21))))))))
def mX11_goBoth (a1 : Int32) (a2 : Int32) (s0 : St) : Option St := kl (gI s0 45 5) (fun x1 => cl2 (mX11_goneTo x1 a1 s0) (fun x3 s2 => kl (gI s2 45 6) (fun x4 => cl2 (mX11_goneTo x4 a2 s2) (fun x6 s5 => kl (pI s5 45 6 x6) (fun s7 => kl (pI s7 45 5 x3) (fun s8 => kl (gI s8 45 8) (fun x9 => kl (gI s8 45 5) (fun x10 => kl (gI s8 45 6) (fun x11 => cl2 (mX11_farOf x10 x11 s8) (fun x13 s12 => kl (gI s12 45 3) (fun x14 => kl (mX11_goBoth_57 x9) (fun J57 => if x14 ≤ x13 then (J57 (0 : Int32) s12) else (J57 (1 : Int32) s12)))))))))))))
def mX11_comes_221 (y4 : Int32) (s6 : St) : Option (Int32 × St) := rz y4 s6
def mX11_comes_208 (x1 : Int32) (x2 : Int32) (y4 : Int32) (s5 : St) : Option (Int32 × St) := kl (mX11_comes_221 y4) (fun J221 => if y4 = 0 then (J221 s5) else (cl1 (mX11_goBoth x1 x2 s5) (fun s7 => J221 s7)))
def mX11_comes_207 (J208 : Int32 → St → Option (Int32 × St)) (s8 : St) : Option (Int32 × St) := J208 (0 : Int32) s8
def mX11_comes_137 (y11 : Int32) (s13 : St) : Option (Int32 × St) := rz y11 s13
def mX11_comes_98 (a1 : Int32) (x1 : Int32) (x2 : Int32) (y11 : Int32) (s12 : St) : Option (Int32 × St) := kl (mX11_comes_137 y11) (fun J137 => if y11 = 0 then (J137 s12) else (ldA s12 56 153 (((3 : Int32) * a1) + (2 : Int32)) (fun x14 => stA s12 46 36 x14 x1 (fun s15 => ldA s15 56 153 (((3 : Int32) * a1) + (2 : Int32)) (fun x16 => stA s15 47 36 x16 x2 (fun s17 => J137 s17))))))
def mX11_comes_97 (J98 : Int32 → St → Option (Int32 × St)) (s18 : St) : Option (Int32 × St) := J98 (0 : Int32) s18
def mX11_comes_298 (y23 : Int32) (y30 : Int32) (s31 : St) : Option (Int32 × St) := kl (pI s31 45 6 y30) (fun s32 => rz y23 s32)
def mX11_comes_294 (J298 : Int32 → St → Option (Int32 × St)) (s33 : St) : Option (Int32 × St) := kl (gI s33 45 6) (fun x34 => J298 x34 s33)
def mX11_comes_270 (a1 : Int32) (y23 : Int32) (x1 : Int32) (y26 : Int32) (s27 : St) : Option (Int32 × St) := kl (pI s27 45 5 y26) (fun s28 => ldA s28 55 51 a1 (fun x29 => kl (mX11_comes_298 y23) (fun J298 => kl (mX11_comes_294 J298) (fun J294 => if x29 = (115 : Int32) then (if y23 = 0 then (J294 s28) else (J298 x1 s28)) else (J294 s28)))))
def mX11_comes_266 (J270 : Int32 → St → Option (Int32 × St)) (s35 : St) : Option (Int32 × St) := kl (gI s35 45 5) (fun x36 => J270 x36 s35)
def mX11_comes_243 (a1 : Int32) (x1 : Int32) (y23 : Int32) (s24 : St) : Option (Int32 × St) := ldA s24 55 51 a1 (fun x25 => kl (mX11_comes_270 a1 y23 x1) (fun J270 => kl (mX11_comes_266 J270) (fun J266 => if x25 = (104 : Int32) then (if y23 = 0 then (J266 s24) else (J270 x1 s24)) else (J266 s24))))
def mX11_comes_242 (J243 : Int32 → St → Option (Int32 × St)) (s37 : St) : Option (Int32 × St) := J243 (0 : Int32) s37
def mX11_comes (a1 : Int32) (s0 : St) : Option (Int32 × St) := ldA s0 56 153 ((3 : Int32) * a1) (fun x1 => ldA s0 56 153 (((3 : Int32) * a1) + (1 : Int32)) (fun x2 => ldA s0 55 51 a1 (fun x3 => if x3 = (100 : Int32) then (kl (mX11_comes_208 x1 x2) (fun J208 => kl (mX11_comes_207 J208) (fun J207 => if (5 : Int32) ≤ x1 then (J207 s0) else (if (5 : Int32) ≤ x2 then (J207 s0) else (cl2 (mX11_canGo x1 x2 s0) (fun x10 s9 => if x10 = 0 then (J207 s9) else (J208 (1 : Int32) s9))))))) else (if x3 = (103 : Int32) then (kl (mX11_comes_98 a1 x1 x2) (fun J98 => kl (mX11_comes_97 J98) (fun J97 => if (8 : Int32) ≤ x1 then (J97 s0) else (ldA s0 56 153 (((3 : Int32) * a1) + (2 : Int32)) (fun x19 => if (36 : Int32) ≤ x19 then (J97 s0) else (J98 (1 : Int32) s0)))))) else (if x3 = (110 : Int32) then (kl (pI s0 45 3 x1) (fun s20 => kl (pI s20 45 4 x2) (fun s21 => if (20 : Int32) < x1 then (rz (0 : Int32) s21) else (if (20 : Int32) < x2 then (rz (0 : Int32) s21) else (rz (1 : Int32) s21))))) else (if x3 = (119 : Int32) then (kl (pI s0 45 2 x1) (fun s22 => if (2 : Int32) ≤ x1 then (rz (0 : Int32) s22) else (rz (1 : Int32) s22))) else (kl (mX11_comes_243 a1 x1) (fun J243 => kl (mX11_comes_242 J243) (fun J242 => if (36 : Int32) ≤ x1 then (J242 s0) else (cl2 (mX11_isOpen x1 s0) (fun x39 s38 => if x39 = 0 then (J242 s38) else (J243 (1 : Int32) s38))))))))))))
def mX11_wrongRow (a1 : Int32) (s0 : St) : Option (Int32 × St) := cl2 (mX11_in (a1.toInt64) (0 : Int64) (7 : Int64) s0) (fun x2 s1 => if x2 = 0 then (some ((-1 : Int32), s1)) else (ldA s1 48 8 a1 (fun x3 => if x3 = 0 then (some ((-11 : Int32), s1)) else (ldA s1 48 8 a1 (fun x4 => if x4 = (2 : Int32) then (some ((0 : Int32), s1)) else (some ((-12 : Int32), s1)))))))
def mX11_carry_17 (s2 : St) : Option (Int32 × St) := kl (gI s2 45 28) (fun x3 => kl (pI s2 45 28 (x3 + (1 : Int32))) (fun s4 => gK s4 (fun n5 => kl (gI s4 45 28) (fun x6 => ldA s4 n5 80 (x6 - (1 : Int32)) (fun x7 => some (x7, s4))))))
def mX11_carry (a1 : Int32) (s0 : St) : Option (Int32 × St) := kl (gI s0 45 29) (fun x1 => kl (mX11_carry_17) (fun J17 => if x1 = 0 then (J17 s0) else (gK s0 (fun n8 => kl (gI s0 45 28) (fun x9 => stA s0 n8 80 x9 a1 (fun s10 => J17 s10))))))
def mX11_carryAll_113 (J113 : Int32 → St → Option St) (y36 : Int32) (s37 : St) : Option St := if (36 : Int32) ≤ y36 then (some s37) else (ldA s37 46 36 y36 (fun x38 => cl2 (mX11_carry x38 s37) (fun x40 s39 => stA s39 46 36 y36 x40 (fun s41 => ldA s41 47 36 y36 (fun x42 => cl2 (mX11_carry x42 s41) (fun x44 s43 => stA s43 47 36 y36 x44 (fun s45 => J113 ((y36 + 1)) s45)))))))
def mX11_carryAll (o1 : Nat) (a2 : Int32) (s0 : St) : Option St := kl (pK s0 o1) (fun s1 => stZ s1 45 29 a2 (fun s2 => kl (pI s2 45 28 (0 : Int32)) (fun s3 => kl (gI s3 45 2) (fun x4 => cl2 (mX11_carry x4 s3) (fun x6 s5 => kl (pI s5 45 2 x6) (fun s7 => kl (gI s7 45 3) (fun x8 => cl2 (mX11_carry x8 s7) (fun x10 s9 => kl (pI s9 45 3 x10) (fun s11 => kl (gI s11 45 4) (fun x12 => cl2 (mX11_carry x12 s11) (fun x14 s13 => kl (pI s13 45 4 x14) (fun s15 => kl (gI s15 45 5) (fun x16 => cl2 (mX11_carry x16 s15) (fun x18 s17 => kl (pI s17 45 5 x18) (fun s19 => kl (gI s19 45 6) (fun x20 => cl2 (mX11_carry x20 s19) (fun x22 s21 => kl (pI s21 45 6 x22) (fun s23 => kl (gI s23 45 7) (fun x24 => cl2 (mX11_carry x24 s23) (fun x26 s25 => kl (pI s25 45 7 x26) (fun s27 => kl (gI s27 45 8) (fun x28 => cl2 (mX11_carry x28 s27) (fun x30 s29 => kl (pI s29 45 8 x30) (fun s31 => kl (gI s31 45 9) (fun x32 => cl2 (mX11_carry x32 s31) (fun x34 s33 => kl (pI s33 45 9 x34) (fun s35 => kl (lp (fun _ _ => none) (mX11_carryAll_113) 2000) (fun J113 => J113 (0 : Int32) s35))))))))))))))))))))))))))))
def mX11_land_118 (J118 : Int32 → St → Option (Int32 × St)) (y15 : Int32) (s16 : St) : Option (Int32 × St) := kl (gI s16 45 21) (fun x17 => if x17 ≤ y15 then (kl (gI s16 45 21) (fun x18 => some (x18, s16))) else (cl2 (mX11_comes y15 s16) (fun x20 s19 => if x20 = 0 then (cl1 (mX11_carryAll 57 (0 : Int32) s19) (fun s21 => ldA s21 54 51 y15 (fun x22 => some (((-2000 : Int32) - x22), s21)))) else (J118 ((y15 + 1)) s19))))
def mX11_land_91 (s12 : St) : Option (Int32 × St) := kl (gI s12 45 20) (fun x13 => if x13 = 0 then (cl1 (mX11_carryAll 57 (1 : Int32) s12) (fun s14 => kl (lp (fun _ _ => none) (mX11_land_118) 2000) (fun J118 => J118 (0 : Int32) s14))) else (kl (gI s12 45 19) (fun x23 => some (((-1000 : Int32) - x23), s12))))
def mX11_land_84 (J57 : St → Option (Int32 × St)) (s25 : St) : Option (Int32 × St) := cl1 (mX11_readStatement s25) (fun s26 => J57 s26)
def mX11_land_57 (a1 : Int32) (J57 : St → Option (Int32 × St)) (s10 : St) : Option (Int32 × St) := kl (gI s10 45 20) (fun x11 => kl (mX11_land_91) (fun J91 => if x11 = 0 then (kl (gI s10 45 21) (fun x24 => kl (mX11_land_84 J57) (fun J84 => if x24 = 0 then (J84 s10) else (kl (gI s10 45 19) (fun x27 => ldA s10 52 8 a1 (fun x28 => if x28 ≤ x27 then (J91 s10) else (J84 s10))))))) else (J91 s10)))
def mX11_land_30 (a1 : Int32) (y4 : Int32) (s5 : St) : Option (Int32 × St) := if 0 ≤ y4 then (kl (pI s5 45 18 a1) (fun s6 => kl (pI s6 45 19 (0 : Int32)) (fun s7 => stZ s7 45 20 (0 : Int32) (fun s8 => kl (pI s8 45 21 (0 : Int32)) (fun s9 => kl (lp (fun _ => none) (mX11_land_57 a1) 2000) (fun J57 => J57 s9)))))) else (some (y4, s5))
def mX11_land_29 (J30 : Int32 → St → Option (Int32 × St)) (x3 : Int32) (s29 : St) : Option (Int32 × St) := J30 x3 s29
def mX11_land (a1 : Int32) (s0 : St) : Option (Int32 × St) := kl (pI s0 45 16 (0 : Int32)) (fun s1 => cl2 (mX11_wrongRow a1 s1) (fun x3 s2 => kl (mX11_land_30 a1) (fun J30 => kl (mX11_land_29 J30 x3) (fun J29 => if x3 = 0 then (ldA s2 51 8 a1 (fun x30 => if x30 = 0 then (J29 s2) else (J30 (-12 : Int32) s2))) else (J29 s2)))))
def mX11_image  (s0 : St) : Option (Int32 × St) := kl (pI s0 45 16 (0 : Int32)) (fun s1 => stZ s1 45 27 (1 : Int32) (fun s2 => cl1 (mX11_carryAll 58 (1 : Int32) s2) (fun s3 => kl (gI s3 45 7) (fun x4 => some (x4, s3)))))
def mX11_restore  (s0 : St) : Option (Int32 × St) := kl (pI s0 45 16 (0 : Int32)) (fun s1 => kl (gI s1 45 27) (fun x2 => if x2 = 0 then (some ((-3 : Int32), s1)) else (cl1 (mX11_carryAll 58 (0 : Int32) s1) (fun s3 => kl (gI s3 45 7) (fun x4 => some (x4, s3))))))
def mX11_ground (a1 : Int32) (a2 : Int32) (s0 : St) : Option (Int32 × St) := kl (pI s0 45 16 (0 : Int32)) (fun s1 => cl2 (mX11_isCell (a1.toInt64) s1) (fun x3 s2 => if x3 = 0 then (some ((-1 : Int32), s2)) else (if a2 = (0 : Int32) then (ldA s2 46 36 a1 (fun x4 => some (x4, s2))) else (if a2 = (1 : Int32) then (ldA s2 47 36 a1 (fun x5 => some (x5, s2))) else (if a2 = (2 : Int32) then (cl2 (mX11_heightOf a1 s2) (fun x7 s6 => some (x7, s6))) else (if a2 = (3 : Int32) then (cl2 (mX11_isOpen a1 s2) (fun x9 s8 => if x9 = 0 then (some ((0 : Int32), s8)) else (some ((1 : Int32), s8)))) else (if a2 = (4 : Int32) then (cl2 (mX11_chanceOf a1 s2) (fun x11 s10 => some (x11, s10))) else (some ((-1 : Int32), s2)))))))))
def mX11_wrongKept (a1 : Int32) (s0 : St) : Option (Int32 × St) := cl2 (mX11_in (a1.toInt64) (0 : Int64) (7 : Int64) s0) (fun x2 s1 => if x2 = 0 then (some ((-1 : Int32), s1)) else (ldA s1 48 8 a1 (fun x3 => if x3 = 0 then (some ((-11 : Int32), s1)) else (ldA s1 48 8 a1 (fun x4 => if x4 = (1 : Int32) then (some ((0 : Int32), s1)) else (some ((-12 : Int32), s1)))))))
def mX11_lays_22 (a2 : Int32) (a1 : Int32) (y4 : Int32) (s5 : St) : Option (Int32 × St) := if 0 ≤ y4 then (ldA s5 46 36 a2 (fun x6 => ldA s5 49 8 a1 (fun x7 => stA s5 46 36 a2 x7 (fun s8 => ldA s8 50 8 a1 (fun x9 => stA s8 47 36 a2 x9 (fun s10 => some (x6, s10))))))) else (some (y4, s5))
def mX11_lays (a1 : Int32) (a2 : Int32) (s0 : St) : Option (Int32 × St) := kl (pI s0 45 16 (0 : Int32)) (fun s1 => cl2 (mX11_isCell (a2.toInt64) s1) (fun x3 s2 => kl (mX11_lays_22 a2 a1) (fun J22 => if x3 = 0 then (J22 (-1 : Int32) s2) else (cl2 (mX11_wrongKept a1 s2) (fun x12 s11 => J22 x12 s11)))))
def mX11_stands_82 (y8 : Int32) (y13 : Int32) (s14 : St) : Option (Int32 × St) := kl (pI s14 45 6 y13) (fun s15 => some (y8, s15))
def mX11_stands_65 (y8 : Int32) (a1 : Int32) (a2 : Int32) (y10 : Int32) (s11 : St) : Option (Int32 × St) := kl (pI s11 45 5 y10) (fun s12 => kl (mX11_stands_82 y8) (fun J82 => if a1 = (1 : Int32) then (J82 a2 s12) else (kl (gI s12 45 6) (fun x16 => J82 x16 s12))))
def mX11_stands_51 (a1 : Int32) (a2 : Int32) (y8 : Int32) (s9 : St) : Option (Int32 × St) := kl (mX11_stands_65 y8 a1 a2) (fun J65 => if a1 = 0 then (J65 a2 s9) else (kl (gI s9 45 5) (fun x17 => J65 x17 s9)))
def mX11_stands (a1 : Int32) (a2 : Int32) (s0 : St) : Option (Int32 × St) := kl (pI s0 45 16 (0 : Int32)) (fun s1 => cl2 (mX11_in (a1.toInt64) (0 : Int64) (1 : Int64) s1) (fun x3 s2 => if x3 = 0 then (some ((-1 : Int32), s2)) else (cl2 (mX11_isCell (a2.toInt64) s2) (fun x5 s4 => if x5 = 0 then (some ((-1 : Int32), s4)) else (cl2 (mX11_isOpen a2 s4) (fun x7 s6 => if x7 = 0 then (some ((-3 : Int32), s6)) else (kl (mX11_stands_51 a1 a2) (fun J51 => if a1 = 0 then (kl (gI s6 45 5) (fun x19 => J51 x19 s6)) else (kl (gI s6 45 6) (fun x18 => J51 x18 s6))))))))))
def mX11_set_115 (y8 : Int32) (y16 : Int32) (s17 : St) : Option (Int32 × St) := kl (pI s17 45 2 y16) (fun s18 => some (y8, s18))
def mX11_set_98 (y8 : Int32) (a1 : Int32) (a2 : Int32) (y13 : Int32) (s14 : St) : Option (Int32 × St) := kl (pI s14 45 4 y13) (fun s15 => kl (mX11_set_115 y8) (fun J115 => if a1 = (2 : Int32) then (J115 a2 s15) else (kl (gI s15 45 2) (fun x19 => J115 x19 s15))))
def mX11_set_81 (y8 : Int32) (a1 : Int32) (a2 : Int32) (y10 : Int32) (s11 : St) : Option (Int32 × St) := kl (pI s11 45 3 y10) (fun s12 => kl (mX11_set_98 y8 a1 a2) (fun J98 => if a1 = (1 : Int32) then (J98 a2 s12) else (kl (gI s12 45 4) (fun x20 => J98 x20 s12))))
def mX11_set_67 (a1 : Int32) (a2 : Int32) (y8 : Int32) (s9 : St) : Option (Int32 × St) := kl (mX11_set_81 y8 a1 a2) (fun J81 => if a1 = 0 then (J81 a2 s9) else (kl (gI s9 45 3) (fun x21 => J81 x21 s9)))
def mX11_set_32 (a2 : Int32) (a1 : Int32) (y4 : Int64) (s5 : St) : Option (Int32 × St) := cl2 (mX11_in (a2.toInt64) (0 : Int64) y4 s5) (fun x7 s6 => if x7 = 0 then (some ((-1 : Int32), s6)) else (kl (mX11_set_67 a1 a2) (fun J67 => if a1 = 0 then (kl (gI s6 45 3) (fun x24 => J67 x24 s6)) else (if a1 = (1 : Int32) then (kl (gI s6 45 4) (fun x23 => J67 x23 s6)) else (kl (gI s6 45 2) (fun x22 => J67 x22 s6))))))
def mX11_set (a1 : Int32) (a2 : Int32) (s0 : St) : Option (Int32 × St) := kl (pI s0 45 16 (0 : Int32)) (fun s1 => cl2 (mX11_in (a1.toInt64) (0 : Int64) (2 : Int64) s1) (fun x3 s2 => if x3 = 0 then (some ((-1 : Int32), s2)) else (kl (mX11_set_32 a2 a1) (fun J32 => if a1 = (2 : Int32) then (J32 (1 : Int64) s2) else (J32 (20 : Int64) s2)))))
def mX11_go (a1 : Int32) (a2 : Int32) (s0 : St) : Option (Int32 × St) := kl (pI s0 45 16 (0 : Int32)) (fun s1 => cl2 (mX11_in (a1.toInt64) (0 : Int64) (4 : Int64) s1) (fun x3 s2 => if x3 = 0 then (some ((-1 : Int32), s2)) else (cl2 (mX11_in (a2.toInt64) (0 : Int64) (4 : Int64) s2) (fun x5 s4 => if x5 = 0 then (some ((-1 : Int32), s4)) else (cl2 (mX11_canGo a1 a2 s4) (fun x7 s6 => if x7 = 0 then (some ((-3 : Int32), s6)) else (cl1 (mX11_goBoth a1 a2 s6) (fun s8 => kl (gI s8 45 5) (fun x9 => kl (gI s8 45 6) (fun x10 => cl2 (mX11_farOf x9 x10 s8) (fun x12 s11 => some (x12, s11))))))))))))
def mX11_far (a1 : Int32) (a2 : Int32) (s0 : St) : Option (Int32 × St) := kl (pI s0 45 16 (0 : Int32)) (fun s1 => cl2 (mX11_isCell (a1.toInt64) s1) (fun x3 s2 => if x3 = 0 then (some ((-1 : Int32), s2)) else (cl2 (mX11_isCell (a2.toInt64) s2) (fun x5 s4 => if x5 = 0 then (some ((-1 : Int32), s4)) else (cl2 (mX11_farOf a1 a2 s4) (fun x7 s6 => some (x7, s6)))))))
def mX11_layStepsFrom_90 (y9 : Int32) (J44 : Int32 → St → Option St) (y15 : Int32) (s16 : St) : Option St := stA s16 59 36 y9 y15 (fun s17 => J44 ((y9 + 1)) s17)
def mX11_layStepsFrom_83 (y9 : Int32) (J90 : Int32 → St → Option St) (s18 : St) : Option St := ldA s18 59 36 y9 (fun x19 => J90 x19 s18)
def mX11_layStepsFrom_44 (y6 : Int64) (J34 : Int64 → Int32 → St → Option St) (y7 : Int32) (J44 : Int32 → St → Option St) (y9 : Int32) (s10 : St) : Option St := if (36 : Int32) ≤ y9 then (cl2 (mX11_goOn y6 s10) (fun x12 s11 => J34 x12 ((y7 + 1)) s11)) else (cl2 (mX11_isOn y6 y9 s10) (fun x14 s13 => kl (mX11_layStepsFrom_90 y9 J44) (fun J90 => kl (mX11_layStepsFrom_83 y9 J90) (fun J83 => if x14 = 0 then (J83 s13) else (ldA s13 59 36 y9 (fun x20 => if x20 ≤ y7 then (J83 s13) else (J90 y7 s13)))))))
def mX11_layStepsFrom_34 (J34 : Int64 → Int32 → St → Option St) (y6 : Int64) (y7 : Int32) (s8 : St) : Option St := if (36 : Int32) ≤ y7 then (some s8) else (kl (lp (fun _ _ => none) (mX11_layStepsFrom_44 y6 J34 y7) 2000) (fun J44 => J44 (0 : Int32) s8))
def mX11_layStepsFrom_2 (a1 : Int32) (J2 : Int32 → St → Option St) (y1 : Int32) (s2 : St) : Option St := if (36 : Int32) ≤ y1 then (cl2 (mX11_openCells s2) (fun x4 s3 => kl ((((1 : Int64) <<< (a1.toInt64 &&& 63)) &&& x4)) (fun x5 => kl (lp (fun _ _ _ => none) (mX11_layStepsFrom_34) 2000) (fun J34 => J34 x5 (0 : Int32) s3)))) else (stA s2 59 36 y1 (99 : Int32) (fun s21 => J2 ((y1 + 1)) s21))
def mX11_layStepsFrom (a1 : Int32) (s0 : St) : Option St := kl (lp (fun _ _ => none) (mX11_layStepsFrom_2 a1) 2000) (fun J2 => J2 (0 : Int32) s0)
def mX11_steps (a1 : Int32) (a2 : Int32) (s0 : St) : Option (Int32 × St) := kl (pI s0 45 16 (0 : Int32)) (fun s1 => cl2 (mX11_isCell (a1.toInt64) s1) (fun x3 s2 => if x3 = 0 then (some ((-1 : Int32), s2)) else (cl2 (mX11_isCell (a2.toInt64) s2) (fun x5 s4 => if x5 = 0 then (some ((-1 : Int32), s4)) else (cl1 (mX11_layStepsFrom a1 s4) (fun s6 => ldA s6 59 36 a2 (fun x7 => if (99 : Int32) ≤ x7 then (some ((-4 : Int32), s6)) else (ldA s6 59 36 a2 (fun x8 => some (x8, s6))))))))))
def mX11_isPair (a1 : Int32) (a2 : Int32) (s0 : St) : Option (Int32 × St) := cl2 (mX11_isOpen a1 s0) (fun x2 s1 => if x2 = 0 then (rz (0 : Int32) s1) else (cl2 (mX11_isOpen a2 s1) (fun x4 s3 => if x4 = 0 then (rz (0 : Int32) s3) else (cl2 (mX11_isOff a1 a2 s3) (fun x6 s5 => if x6 = 0 then (rz (1 : Int32) s5) else (rz (0 : Int32) s5))))))
def mX11_pairMany_32 (y1 : Int32) (J4 : Int32 → Int32 → St → Option (Int32 × St)) (y2 : Int32) (y6 : Int32) (s7 : St) : Option (Int32 × St) := kl ((y1 + y6)) (fun x8 => J4 x8 ((y2 + 1)) s7)
def mX11_pairMany_4 (J4 : Int32 → Int32 → St → Option (Int32 × St)) (y1 : Int32) (y2 : Int32) (s3 : St) : Option (Int32 × St) := if (1296 : Int32) ≤ y2 then (some (y1, s3)) else (cl2 (mX11_isPair (y2 / (36 : Int32)) (y2 - y2 / (36 : Int32) * (36 : Int32)) s3) (fun x5 s4 => kl (mX11_pairMany_32 y1 J4 y2) (fun J32 => if x5 = 0 then (J32 (0 : Int32) s4) else (J32 (1 : Int32) s4))))
def mX11_pairMany  (s0 : St) : Option (Int32 × St) := kl (lp (fun _ _ _ => none) (mX11_pairMany_4) 2000) (fun J4 => J4 (0 : Int32) (0 : Int32) s0)
def mX11_pairs_67 (J25 : Int32 → Int32 → St → Option (Int32 × St)) (y7 : Int32) (y8 : Int32) (s9 : St) : Option (Int32 × St) := J25 y7 ((y8 + 1)) s9
def mX11_pairs_25 (J25 : Int32 → Int32 → St → Option (Int32 × St)) (y2 : Int32) (y3 : Int32) (s4 : St) : Option (Int32 × St) := if (1296 : Int32) ≤ y3 then (some ((-4 : Int32), s4)) else (cl2 (mX11_isPair (y3 / (36 : Int32)) (y3 - y3 / (36 : Int32) * (36 : Int32)) s4) (fun x6 s5 => kl (mX11_pairs_67 J25) (fun J67 => if x6 = 0 then (J67 y2 y3 s5) else (if y2 = 0 then (some ((((100 : Int32) * (y3 / (36 : Int32))) + (y3 - y3 / (36 : Int32) * (36 : Int32))), s5)) else (J67 ((y2 + (-1))) y3 s5)))))
def mX11_pairs (a1 : Int32) (s0 : St) : Option (Int32 × St) := kl (pI s0 45 16 (0 : Int32)) (fun s1 => if (-1 : Int32) ≤ a1 then (if 0 ≤ a1 then (kl (lp (fun _ _ _ => none) (mX11_pairs_25) 2000) (fun J25 => J25 a1 (0 : Int32) s1)) else (cl2 (mX11_pairMany s1) (fun x11 s10 => some (x11, s10)))) else (some ((-1 : Int32), s1)))
def mX11_partWith_38 (y2 : Int64) (J10 : Int64 → Int32 → St → Option (Int64 × St)) (y3 : Int32) (y6 : Int64) (s7 : St) : Option (Int64 × St) := kl ((y2 ||| y6)) (fun x8 => J10 x8 ((y3 + 1)) s7)
def mX11_partWith_10 (J10 : Int64 → Int32 → St → Option (Int64 × St)) (y2 : Int64) (y3 : Int32) (s4 : St) : Option (Int64 × St) := if (36 : Int32) ≤ y3 then (some (y2, s4)) else (ldA s4 59 36 y3 (fun x5 => kl (mX11_partWith_38 y2 J10 y3) (fun J38 => if (99 : Int32) ≤ x5 then (J38 (0 : Int64) s4) else (J38 (((1 : Int64) <<< (y3.toInt64 &&& 63))) s4))))
def mX11_partWith (a1 : Int32) (s0 : St) : Option (Int64 × St) := cl1 (mX11_layStepsFrom a1 s0) (fun s1 => kl (lp (fun _ _ _ => none) (mX11_partWith_10) 2000) (fun J10 => J10 (0 : Int64) (0 : Int32) s1))
def mX11_islands_49 (J12 : Int32 → Int64 → Int32 → St → Option (Int32 × St)) (y8 : Int32) (y9 : Int64) (y10 : Int32) (s11 : St) : Option (Int32 × St) := J12 y8 y9 ((y10 + 1)) s11
def mX11_islands_12 (J12 : Int32 → Int64 → Int32 → St → Option (Int32 × St)) (y2 : Int32) (y3 : Int64) (y4 : Int32) (s5 : St) : Option (Int32 × St) := if (36 : Int32) ≤ y4 then (some (y2, s5)) else (cl2 (mX11_isOpen y4 s5) (fun x7 s6 => kl (mX11_islands_49 J12) (fun J49 => if x7 = 0 then (J49 y2 y3 y4 s6) else (cl2 (mX11_isOn y3 y4 s6) (fun x13 s12 => if x13 = 0 then (cl2 (mX11_partWith y4 s12) (fun x15 s14 => kl ((y3 ||| x15)) (fun x16 => J49 ((y2 + 1)) x16 y4 s14))) else (J49 y2 y3 y4 s12))))))
def mX11_islands  (s0 : St) : Option (Int32 × St) := kl (pI s0 45 16 (0 : Int32)) (fun s1 => kl (lp (fun _ _ _ _ => none) (mX11_islands_12) 2000) (fun J12 => J12 (0 : Int32) (0 : Int64) (0 : Int32) s1))
def mX11_island (a1 : Int32) (s0 : St) : Option (Int32 × St) := kl (pI s0 45 16 (0 : Int32)) (fun s1 => cl2 (mX11_isCell (a1.toInt64) s1) (fun x3 s2 => if x3 = 0 then (some ((-1 : Int32), s2)) else (cl2 (mX11_isOpen a1 s2) (fun x5 s4 => if x5 = 0 then (some ((-3 : Int32), s4)) else (cl2 (mX11_partWith a1 s4) (fun x7 s6 => cl2 (mX11_onesOf x7 s6) (fun x9 s8 => some (x9, s8))))))))
def mX11_middle_199 (J73 : Int32 → Int32 → Int32 → St → Option (Int32 × St)) (y13 : Int32) (y14 : Int32) (y15 : Int32) (s16 : St) : Option (Int32 × St) := J73 y13 y14 ((y15 + 1)) s16
def mX11_middle_197 (J199 : Int32 → Int32 → Int32 → St → Option (Int32 × St)) (y23 : Int32) (y9 : Int32) (y25 : Int32) (s26 : St) : Option (Int32 × St) := J199 y23 y25 y9 s26
def mX11_middle_183 (J199 : Int32 → Int32 → Int32 → St → Option (Int32 × St)) (y9 : Int32) (y21 : Int32) (y8 : Int32) (y18 : Int32) (y23 : Int32) (s24 : St) : Option (Int32 × St) := kl (mX11_middle_197 J199 y23 y9) (fun J197 => if y21 = 0 then (J197 y8 s24) else (J197 y18 s24))
def mX11_middle_169 (J199 : Int32 → Int32 → Int32 → St → Option (Int32 × St)) (y9 : Int32) (y8 : Int32) (y18 : Int32) (y7 : Int32) (y21 : Int32) (s22 : St) : Option (Int32 × St) := kl (mX11_middle_183 J199 y9 y21 y8 y18) (fun J183 => if y21 = 0 then (J183 y7 s22) else (J183 y9 s22))
def mX11_middle_164 (J169 : Int32 → St → Option (Int32 × St)) (s27 : St) : Option (Int32 × St) := J169 (1 : Int32) s27
def mX11_middle_144 (J101 : Int32 → Int32 → St → Option (Int32 × St)) (y19 : Int32) (y29 : Int32) (s30 : St) : Option (Int32 × St) := J101 y29 ((y19 + 1)) s30
def mX11_middle_142 (J144 : Int32 → St → Option (Int32 × St)) (y18 : Int32) (s31 : St) : Option (Int32 × St) := J144 y18 s31
def mX11_middle_101 (J199 : Int32 → Int32 → Int32 → St → Option (Int32 × St)) (y9 : Int32) (y8 : Int32) (y7 : Int32) (J101 : Int32 → Int32 → St → Option (Int32 × St)) (y18 : Int32) (y19 : Int32) (s20 : St) : Option (Int32 × St) := if (36 : Int32) ≤ y19 then (kl (mX11_middle_169 J199 y9 y8 y18 y7) (fun J169 => kl (mX11_middle_164 J169) (fun J164 => if y7 < 0 then (J164 s20) else (if y8 ≤ y18 then (J169 (0 : Int32) s20) else (J164 s20))))) else (ldA s20 59 36 y19 (fun x28 => kl (mX11_middle_144 J101 y19) (fun J144 => kl (mX11_middle_142 J144 y18) (fun J142 => if (99 : Int32) ≤ x28 then (J142 s20) else (ldA s20 59 36 y19 (fun x32 => if x32 ≤ y18 then (J142 s20) else (ldA s20 59 36 y19 (fun x33 => J144 x33 s20))))))))
def mX11_middle_73 (a1 : Int32) (y4 : Int64) (J73 : Int32 → Int32 → Int32 → St → Option (Int32 × St)) (y7 : Int32) (y8 : Int32) (y9 : Int32) (s10 : St) : Option (Int32 × St) := if (36 : Int32) ≤ y9 then (if a1 = 0 then (some (y7, s10)) else (some (y8, s10))) else (cl2 (mX11_isOn y4 y9 s10) (fun x12 s11 => kl (mX11_middle_199 J73) (fun J199 => if x12 = 0 then (J199 y7 y8 y9 s11) else (cl1 (mX11_layStepsFrom y9 s11) (fun s17 => kl (lp (fun _ _ _ => none) (mX11_middle_101 J199 y9 y8 y7) 2000) (fun J101 => J101 (0 : Int32) (0 : Int32) s17))))))
def mX11_middle_55 (J22 : Int64 → Int32 → St → Option (Int32 × St)) (y5 : Int32) (y40 : Int64) (s41 : St) : Option (Int32 × St) := J22 y40 ((y5 + 1)) s41
def mX11_middle_22 (a1 : Int32) (J22 : Int64 → Int32 → St → Option (Int32 × St)) (y4 : Int64) (y5 : Int32) (s6 : St) : Option (Int32 × St) := if (36 : Int32) ≤ y5 then (kl (lp (fun _ _ _ _ => none) (mX11_middle_73 a1 y4) 2000) (fun J73 => J73 (-4 : Int32) (-4 : Int32) (0 : Int32) s6)) else (cl2 (mX11_partWith y5 s6) (fun x35 s34 => cl2 (mX11_onesOf x35 s34) (fun x37 s36 => cl2 (mX11_onesOf y4 s36) (fun x39 s38 => kl (mX11_middle_55 J22 y5) (fun J55 => if x37 ≤ x39 then (J55 y4 s38) else (J55 x35 s38))))))
def mX11_middle (a1 : Int32) (s0 : St) : Option (Int32 × St) := kl (pI s0 45 16 (0 : Int32)) (fun s1 => cl2 (mX11_in (a1.toInt64) (0 : Int64) (1 : Int64) s1) (fun x3 s2 => if x3 = 0 then (some ((-1 : Int32), s2)) else (kl (lp (fun _ _ _ => none) (mX11_middle_22 a1) 2000) (fun J22 => J22 (0 : Int64) (0 : Int32) s2))))
def mX11_layDaysFrom_203 (J72 : Int32 → Int32 → St → Option St) (y19 : Int32) (y20 : Int32) (s21 : St) : Option St := J72 y19 ((y20 + 1)) s21
def mX11_layDaysFrom_72 (J63 : Int32 → Int32 → St → Option St) (y8 : Int32) (J72 : Int32 → Int32 → St → Option St) (y10 : Int32) (y11 : Int32) (s12 : St) : Option St := if (25 : Int32) ≤ y11 then (J63 y10 ((y8 + 1)) s12) else (ldA s12 61 1296 y8 (fun x13 => cl2 (mX11_goneTo (x13 / (36 : Int32)) (y11 / (5 : Int32)) s12) (fun x15 s14 => ldA s14 61 1296 y8 (fun x16 => cl2 (mX11_goneTo (x16 - x16 / (36 : Int32) * (36 : Int32)) (y11 - y11 / (5 : Int32) * (5 : Int32)) s14) (fun x18 s17 => kl (mX11_layDaysFrom_203 J72) (fun J203 => if x15 < 0 then (J203 y10 y11 s17) else (if x18 < 0 then (J203 y10 y11 s17) else (ldA s17 60 1296 (((36 : Int32) * x15) + x18) (fun x22 => if x22 = (9999 : Int32) then (cl2 (mX11_isPair x15 x18 s17) (fun x24 s23 => if x24 = 0 then (J203 y10 y11 s23) else (ldA s23 61 1296 y8 (fun x25 => ldA s23 60 1296 x25 (fun x26 => stA s23 60 1296 (((36 : Int32) * x15) + x18) (x26 + (1 : Int32)) (fun s27 => stA s27 61 1296 y10 (((36 : Int32) * x15) + x18) (fun s28 => J203 ((y10 + 1)) y11 s28))))))) else (J203 y10 y11 s17))))))))))
def mX11_layDaysFrom_63 (J63 : Int32 → Int32 → St → Option St) (y7 : Int32) (y8 : Int32) (s9 : St) : Option St := if y7 ≤ y8 then (some s9) else (kl (lp (fun _ _ _ => none) (mX11_layDaysFrom_72 J63 y8) 2000) (fun J72 => J72 y7 (0 : Int32) s9))
def mX11_layDaysFrom_2 (a1 : Int32) (a2 : Int32) (J2 : Int32 → St → Option St) (y1 : Int32) (s2 : St) : Option St := if (1296 : Int32) ≤ y1 then (cl2 (mX11_isPair a1 a2 s2) (fun x4 s3 => if x4 = 0 then (some s3) else (stA s3 60 1296 (((36 : Int32) * a1) + a2) (0 : Int32) (fun s5 => stA s5 61 1296 (0 : Int32) (((36 : Int32) * a1) + a2) (fun s6 => kl (lp (fun _ _ _ => none) (mX11_layDaysFrom_63) 2000) (fun J63 => J63 (1 : Int32) (0 : Int32) s6)))))) else (stA s2 60 1296 y1 (9999 : Int32) (fun s29 => J2 ((y1 + 1)) s29))
def mX11_layDaysFrom (a1 : Int32) (a2 : Int32) (s0 : St) : Option St := kl (lp (fun _ _ => none) (mX11_layDaysFrom_2 a1 a2) 2000) (fun J2 => J2 (0 : Int32) s0)
def mX11_areBoth  (s0 : St) : Option (Int32 × St) := kl (gI s0 45 5) (fun x1 => if x1 < 0 then (rz (0 : Int32) s0) else (kl (gI s0 45 6) (fun x2 => if x2 < 0 then (rz (0 : Int32) s0) else (rz (1 : Int32) s0))))
def mX11_wrongTwo_16 (s3 : St) : Option (Int32 × St) := some ((-1 : Int32), s3)
def mX11_wrongTwo (a1 : Int32) (a2 : Int32) (s0 : St) : Option (Int32 × St) := cl2 (mX11_isCell (a1.toInt64) s0) (fun x2 s1 => kl (mX11_wrongTwo_16) (fun J16 => if x2 = 0 then (J16 s1) else (cl2 (mX11_isCell (a2.toInt64) s1) (fun x5 s4 => if x5 = 0 then (J16 s4) else (cl2 (mX11_areBoth s4) (fun x7 s6 => if x7 = 0 then (some ((-3 : Int32), s6)) else (some ((0 : Int32), s6))))))))
def mX11_seeDays_44 (y6 : Int32) (s7 : St) : Option (Int32 × St) := if (9999 : Int32) ≤ y6 then (some ((-4 : Int32), s7)) else (some (y6, s7))
def mX11_seeDays (a1 : Int32) (a2 : Int32) (s0 : St) : Option (Int32 × St) := cl1 (mX11_layDaysFrom a1 a2 s0) (fun s1 => kl (gI s1 45 5) (fun x2 => kl (gI s1 45 6) (fun x3 => cl2 (mX11_isPair x2 x3 s1) (fun x5 s4 => kl (mX11_seeDays_44) (fun J44 => if x5 = 0 then (J44 (9999 : Int32) s4) else (kl (gI s4 45 5) (fun x8 => kl (gI s4 45 6) (fun x9 => ldA s4 60 1296 (((36 : Int32) * x8) + x9) (fun x10 => J44 x10 s4)))))))))
def mX11_see (a1 : Int32) (a2 : Int32) (s0 : St) : Option (Int32 × St) := kl (pI s0 45 16 (0 : Int32)) (fun s1 => cl2 (mX11_wrongTwo a1 a2 s1) (fun x3 s2 => if 0 ≤ x3 then (cl2 (mX11_seeDays a1 a2 s2) (fun x5 s4 => some (x5, s4))) else (cl2 (mX11_wrongTwo a1 a2 s2) (fun x7 s6 => some (x7, s6)))))
def mX11_way_180 (J73 : Int32 → Int32 → St → Option (Int32 × St)) (y13 : Int32) (y23 : Int32) (s24 : St) : Option (Int32 × St) := J73 y23 ((y13 + 1)) s24
def mX11_way_178 (J180 : Int32 → St → Option (Int32 × St)) (y12 : Int32) (s25 : St) : Option (Int32 × St) := J180 y12 s25
def mX11_way_167 (J180 : Int32 → St → Option (Int32 × St)) (x18 : Int32) (x20 : Int32) (s26 : St) : Option (Int32 × St) := J180 ((((36 : Int32) * x18) + x20)) s26
def mX11_way_142 (J73 : Int32 → Int32 → St → Option (Int32 × St)) (y13 : Int32) (y12 : Int32) (x18 : Int32) (x20 : Int32) (y21 : Int32) (s22 : St) : Option (Int32 × St) := kl (mX11_way_180 J73 y13) (fun J180 => kl (mX11_way_178 J180 y12) (fun J178 => if y21 = 0 then (J178 s22) else (kl (mX11_way_167 J180 x18 x20) (fun J167 => if y12 < 0 then (J167 s22) else (if y12 ≤ (((36 : Int32) * x18) + x20) then (J178 s22) else (J167 s22))))))
def mX11_way_141 (J142 : Int32 → St → Option (Int32 × St)) (s27 : St) : Option (Int32 × St) := J142 (0 : Int32) s27
def mX11_way_73 (J61 : Int32 → Int32 → Int32 → St → Option (Int32 × St)) (y10 : Int32) (y8 : Int32) (y9 : Int32) (x5 : Int32) (J73 : Int32 → Int32 → St → Option (Int32 × St)) (y12 : Int32) (y13 : Int32) (s14 : St) : Option (Int32 × St) := if (25 : Int32) ≤ y13 then (kl ((y12 / (36 : Int32))) (fun x15 => kl ((y12 - y12 / (36 : Int32) * (36 : Int32))) (fun x16 => J61 x15 x16 ((y10 + 1)) s14))) else (cl2 (mX11_goneTo y8 (y13 / (5 : Int32)) s14) (fun x18 s17 => cl2 (mX11_goneTo y9 (y13 - y13 / (5 : Int32) * (5 : Int32)) s17) (fun x20 s19 => kl (mX11_way_142 J73 y13 y12 x18 x20) (fun J142 => kl (mX11_way_141 J142) (fun J141 => if x18 < 0 then (J141 s19) else (if x20 < 0 then (J141 s19) else (ldA s19 60 1296 (((36 : Int32) * x18) + x20) (fun x28 => if x28 = ((x5 - y10) - (1 : Int32)) then (J142 (1 : Int32) s19) else (J141 s19)))))))))
def mX11_way_61 (a3 : Int32) (x5 : Int32) (J61 : Int32 → Int32 → Int32 → St → Option (Int32 × St)) (y8 : Int32) (y9 : Int32) (y10 : Int32) (s11 : St) : Option (Int32 × St) := if a3 ≤ y10 then (some ((((100 : Int32) * y8) + y9), s11)) else (kl (lp (fun _ _ _ => none) (mX11_way_73 J61 y10 y8 y9 x5) 2000) (fun J73 => J73 (-1 : Int32) (0 : Int32) s11))
def mX11_way_19 (a1 : Int32) (a2 : Int32) (a3 : Int32) (y2 : Int32) (s3 : St) : Option (Int32 × St) := if 0 ≤ y2 then (cl2 (mX11_seeDays a1 a2 s3) (fun x5 s4 => if a3 ≤ x5 then (kl (gI s4 45 5) (fun x6 => kl (gI s4 45 6) (fun x7 => kl (lp (fun _ _ _ _ => none) (mX11_way_61 a3 x5) 2000) (fun J61 => J61 x6 x7 (0 : Int32) s4)))) else (some ((-4 : Int32), s4)))) else (some (y2, s3))
def mX11_way (a1 : Int32) (a2 : Int32) (a3 : Int32) (s0 : St) : Option (Int32 × St) := kl (pI s0 45 16 (0 : Int32)) (fun s1 => kl (mX11_way_19 a1 a2 a3) (fun J19 => if 0 ≤ a3 then (cl2 (mX11_wrongTwo a1 a2 s1) (fun x30 s29 => J19 x30 s29)) else (J19 (-1 : Int32) s1)))
def mX11_hinders_120 (J44 : Int32 → Int32 → Int32 → St → Option (Int32 × St)) (y12 : Int32) (y13 : Int32) (y14 : Int32) (s15 : St) : Option (Int32 × St) := J44 y12 y13 ((y14 + 1)) s15
def mX11_hinders_118 (J120 : Int32 → Int32 → Int32 → St → Option (Int32 × St)) (y20 : Int32) (y8 : Int32) (y22 : Int32) (s23 : St) : Option (Int32 × St) := J120 y20 y22 y8 s23
def mX11_hinders_116 (J118 : Int32 → St → Option (Int32 × St)) (y7 : Int32) (s24 : St) : Option (Int32 × St) := J118 y7 s24
def mX11_hinders_98 (J120 : Int32 → Int32 → Int32 → St → Option (Int32 × St)) (y8 : Int32) (y7 : Int32) (x18 : Int32) (y20 : Int32) (s21 : St) : Option (Int32 × St) := kl (mX11_hinders_118 J120 y20 y8) (fun J118 => kl (mX11_hinders_116 J118 y7) (fun J116 => if x18 < 0 then (J116 s21) else (if y7 ≤ x18 then (J116 s21) else (J118 x18 s21))))
def mX11_hinders_97 (J98 : Int32 → St → Option (Int32 × St)) (y6 : Int32) (s25 : St) : Option (Int32 × St) := J98 y6 s25
def mX11_hinders_44 (a1 : Int32) (a2 : Int32) (J44 : Int32 → Int32 → Int32 → St → Option (Int32 × St)) (y6 : Int32) (y7 : Int32) (y8 : Int32) (s9 : St) : Option (Int32 × St) := if (36 : Int32) ≤ y8 then (some (y6, s9)) else (cl2 (mX11_isOpen y8 s9) (fun x11 s10 => kl (mX11_hinders_120 J44) (fun J120 => if x11 = 0 then (kl (pI s10 45 17 y8) (fun s16 => cl2 (mX11_seeDays a1 a2 s16) (fun x18 s17 => kl (pI s17 45 17 (-4 : Int32)) (fun s19 => kl (mX11_hinders_98 J120 y8 y7 x18) (fun J98 => kl (mX11_hinders_97 J98 y6) (fun J97 => if x18 < 0 then (J97 s19) else (if y7 ≤ x18 then (J97 s19) else (J98 y8 s19)))))))) else (J120 y6 y7 y8 s10))))
def mX11_hinders (a1 : Int32) (a2 : Int32) (s0 : St) : Option (Int32 × St) := kl (pI s0 45 16 (0 : Int32)) (fun s1 => cl2 (mX11_wrongTwo a1 a2 s1) (fun x3 s2 => if 0 ≤ x3 then (cl2 (mX11_seeDays a1 a2 s2) (fun x5 s4 => if x5 < 0 then (kl (lp (fun _ _ _ _ => none) (mX11_hinders_44 a1 a2) 2000) (fun J44 => J44 (-4 : Int32) (9999 : Int32) (0 : Int32) s4)) else (some ((-4 : Int32), s4)))) else (cl2 (mX11_wrongTwo a1 a2 s2) (fun x27 s26 => some (x27, s26)))))
def mX11_needs_82 (x4 : Int32) (y6 : Int32) (s9 : St) : Option (Int32 × St) := kl (pI s9 45 4 x4) (fun s10 => some (y6, s10))
def mX11_needs_67 (J35 : Int32 → St → Option (Int32 × St)) (y13 : Int32) (s14 : St) : Option (Int32 × St) := kl (gI s14 45 4) (fun x15 => kl (pI s14 45 4 (x15 + (1 : Int32))) (fun s16 => J35 y13 s16))
def mX11_needs_35 (x4 : Int32) (a1 : Int32) (a2 : Int32) (J35 : Int32 → St → Option (Int32 × St)) (y6 : Int32) (s7 : St) : Option (Int32 × St) := kl (gI s7 45 4) (fun x8 => kl (mX11_needs_82 x4 y6) (fun J82 => if (20 : Int32) < x8 then (J82 s7) else (if 0 ≤ y6 then (J82 s7) else (cl2 (mX11_seeDays a1 a2 s7) (fun x12 s11 => kl (mX11_needs_67 J35) (fun J67 => if x12 < 0 then (J67 (-4 : Int32) s11) else (kl (gI s11 45 4) (fun x17 => J67 x17 s11))))))))
def mX11_needs (a1 : Int32) (a2 : Int32) (s0 : St) : Option (Int32 × St) := kl (pI s0 45 16 (0 : Int32)) (fun s1 => cl2 (mX11_wrongTwo a1 a2 s1) (fun x3 s2 => if 0 ≤ x3 then (kl (gI s2 45 4) (fun x4 => kl (pI s2 45 4 (0 : Int32)) (fun s5 => kl (lp (fun _ _ => none) (mX11_needs_35 x4 a1 a2) 2000) (fun J35 => J35 (-4 : Int32) s5)))) else (cl2 (mX11_wrongTwo a1 a2 s2) (fun x19 s18 => some (x19, s18)))))
def mX11_within_68 (y9 : Int32) (J45 : Int32 → Int32 → St → Option (Int32 × St)) (y10 : Int32) (y13 : Int32) (s14 : St) : Option (Int32 × St) := kl ((y9 + y13)) (fun x15 => J45 x15 ((y10 + 1)) s14)
def mX11_within_45 (a1 : Int32) (J45 : Int32 → Int32 → St → Option (Int32 × St)) (y9 : Int32) (y10 : Int32) (s11 : St) : Option (Int32 × St) := if (1296 : Int32) ≤ y10 then (some (y9, s11)) else (ldA s11 60 1296 y10 (fun x12 => kl (mX11_within_68 y9 J45 y10) (fun J68 => if a1 < x12 then (J68 (0 : Int32) s11) else (J68 (1 : Int32) s11))))
def mX11_within (a1 : Int32) (s0 : St) : Option (Int32 × St) := kl (pI s0 45 16 (0 : Int32)) (fun s1 => cl2 (mX11_in (a1.toInt64) (0 : Int64) (40 : Int64) s1) (fun x3 s2 => if x3 = 0 then (some ((-1 : Int32), s2)) else (cl2 (mX11_areBoth s2) (fun x5 s4 => if x5 = 0 then (some ((-3 : Int32), s4)) else (kl (gI s4 45 5) (fun x6 => kl (gI s4 45 6) (fun x7 => cl1 (mX11_layDaysFrom x6 x7 s4) (fun s8 => kl (lp (fun _ _ _ => none) (mX11_within_45 a1) 2000) (fun J45 => J45 (0 : Int32) (0 : Int32) s8)))))))))
def mX11_layWays_203 (J61 : Int32 → St → Option St) (y12 : Int32) (J203 : Int32 → St → Option St) (y18 : Int32) (s19 : St) : Option St := if (1296 : Int32) ≤ y18 then (J61 ((y12 + 1)) s19) else (ldL s19 63 1296 y18 (fun x20 => stL s19 62 1296 y18 x20 (fun s21 => J203 ((y18 + 1)) s21)))
def mX11_layWays_195 (J90 : Int32 → St → Option St) (y24 : Int32) (s25 : St) : Option St := J90 ((y24 + 1)) s25
def mX11_layWays_189 (J100 : Int32 → St → Option St) (y31 : Int32) (s32 : St) : Option St := J100 ((y31 + 1)) s32
def mX11_layWays_100 (J90 : Int32 → St → Option St) (y16 : Int32) (J100 : Int32 → St → Option St) (y22 : Int32) (s23 : St) : Option St := kl (mX11_layWays_195 J90) (fun J195 => if (25 : Int32) ≤ y22 then (J195 y16 s23) else (ldL s23 62 1296 y16 (fun x26 => if (lg_cmp x26 (0 : Int64)) ≤ 0 then (J195 y16 s23) else (cl2 (mX11_goneTo (y16 / (36 : Int32)) (y22 / (5 : Int32)) s23) (fun x28 s27 => cl2 (mX11_goneTo (y16 - y16 / (36 : Int32) * (36 : Int32)) (y22 - y22 / (5 : Int32) * (5 : Int32)) s27) (fun x30 s29 => kl (mX11_layWays_189 J100) (fun J189 => if x28 < 0 then (J189 y22 s29) else (if x30 < 0 then (J189 y22 s29) else (cl2 (mX11_isPair x28 x30 s29) (fun x34 s33 => if x34 = 0 then (J189 y22 s33) else (ldL s33 63 1296 (((36 : Int32) * x28) + x30) (fun x35 => ldL s33 62 1296 y16 (fun x36 => stL s33 63 1296 (((36 : Int32) * x28) + x30) (x35 + x36) (fun s37 => J189 y22 s37))))))))))))))
def mX11_layWays_90 (J61 : Int32 → St → Option St) (y12 : Int32) (J90 : Int32 → St → Option St) (y16 : Int32) (s17 : St) : Option St := if (1296 : Int32) ≤ y16 then (kl (lp (fun _ _ => none) (mX11_layWays_203 J61 y12) 2000) (fun J203 => J203 (0 : Int32) s17)) else (kl (lp (fun _ _ => none) (mX11_layWays_100 J90 y16) 2000) (fun J100 => J100 (0 : Int32) s17))
def mX11_layWays_68 (J61 : Int32 → St → Option St) (y12 : Int32) (J68 : Int32 → St → Option St) (y14 : Int32) (s15 : St) : Option St := if (1296 : Int32) ≤ y14 then (kl (lp (fun _ _ => none) (mX11_layWays_90 J61 y12) 2000) (fun J90 => J90 (0 : Int32) s15)) else (stL s15 63 1296 y14 (0 : Int64) (fun s38 => J68 ((y14 + 1)) s38))
def mX11_layWays_61 (a1 : Int32) (J61 : Int32 → St → Option St) (y12 : Int32) (s13 : St) : Option St := if a1 ≤ y12 then (some s13) else (kl (lp (fun _ _ => none) (mX11_layWays_68 J61 y12) 2000) (fun J68 => J68 (0 : Int32) s13))
def mX11_layWays_58 (x3 : Int32) (x4 : Int32) (a1 : Int32) (y9 : Int64) (s10 : St) : Option St := stL s10 62 1296 (((36 : Int32) * x3) + x4) y9 (fun s11 => kl (lp (fun _ _ => none) (mX11_layWays_61 a1) 2000) (fun J61 => J61 (0 : Int32) s11))
def mX11_layWays_2 (a1 : Int32) (J2 : Int32 → St → Option St) (y1 : Int32) (s2 : St) : Option St := if (1296 : Int32) ≤ y1 then (kl (gI s2 45 5) (fun x3 => kl (gI s2 45 6) (fun x4 => kl (gI s2 45 5) (fun x5 => kl (gI s2 45 6) (fun x6 => cl2 (mX11_isPair x5 x6 s2) (fun x8 s7 => kl (mX11_layWays_58 x3 x4 a1) (fun J58 => if x8 = 0 then (J58 (0 : Int64) s7) else (J58 (1 : Int64) s7)))))))) else (stL s2 62 1296 y1 (0 : Int64) (fun s39 => J2 ((y1 + 1)) s39))
def mX11_layWays (a1 : Int32) (s0 : St) : Option St := kl (lp (fun _ _ => none) (mX11_layWays_2 a1) 2000) (fun J2 => J2 (0 : Int32) s0)
def mX11_wrongWays (a1 : Int32) (s0 : St) : Option (Int32 × St) := cl2 (mX11_in (a1.toInt64) (0 : Int64) (10 : Int64) s0) (fun x2 s1 => if x2 = 0 then (some ((-1 : Int32), s1)) else (cl2 (mX11_areBoth s1) (fun x4 s3 => if x4 = 0 then (some ((-3 : Int32), s3)) else (some ((0 : Int32), s3)))))
def mX11_ways_34 (J34 : Int64 → Int32 → St → Option (Int64 × St)) (y5 : Int64) (y6 : Int32) (s7 : St) : Option (Int64 × St) := if (1296 : Int32) ≤ y6 then (some (y5, s7)) else (ldL s7 62 1296 y6 (fun x8 => kl ((y5 + x8)) (fun x9 => J34 x9 ((y6 + 1)) s7)))
def mX11_ways (a1 : Int32) (s0 : St) : Option (Int64 × St) := kl (pI s0 45 16 (0 : Int32)) (fun s1 => cl2 (mX11_wrongWays a1 s1) (fun x3 s2 => if 0 ≤ x3 then (cl1 (mX11_layWays a1 s2) (fun s4 => kl (lp (fun _ _ _ => none) (mX11_ways_34) 2000) (fun J34 => J34 (0 : Int64) (0 : Int32) s4))) else (cl2 (mX11_wrongWays a1 s2) (fun x11 s10 => some ((x11 - (1000000000 : Int32)).toInt64, s10)))))
def mX11_rounds (a1 : Int32) (s0 : St) : Option (Int64 × St) := kl (pI s0 45 16 (0 : Int32)) (fun s1 => cl2 (mX11_wrongWays a1 s1) (fun x3 s2 => if 0 ≤ x3 then (cl1 (mX11_layWays a1 s2) (fun s4 => kl (gI s4 45 5) (fun x5 => kl (gI s4 45 6) (fun x6 => ldL s4 62 1296 (((36 : Int32) * x5) + x6) (fun x7 => some (x7, s4)))))) else (cl2 (mX11_wrongWays a1 s2) (fun x9 s8 => some ((x9 - (1000000000 : Int32)).toInt64, s8)))))
def mX11_late_169 (y13 : Int32) (J76 : Int32 → Int32 → St → Option (Int32 × St)) (y14 : Int32) (y25 : Int32) (s26 : St) : Option (Int32 × St) := kl ((y13 ||| y25)) (fun x27 => J76 x27 ((y14 + 1)) s26)
def mX11_late_154 (y13 : Int32) (J76 : Int32 → Int32 → St → Option (Int32 × St)) (y14 : Int32) (y21 : Int32) (s24 : St) : Option (Int32 × St) := kl (mX11_late_169 y13 J76 y14) (fun J169 => if y21 = 0 then (J169 (0 : Int32) s24) else (J169 (((1 : Int32) <<< (y14 &&& 31))) s24))
def mX11_late_146 (J109 : Int32 → Int32 → St → Option (Int32 × St)) (y22 : Int32) (y30 : Int32) (s31 : St) : Option (Int32 × St) := J109 y30 ((y22 + 1)) s31
def mX11_late_141 (J146 : Int32 → St → Option (Int32 × St)) (s32 : St) : Option (Int32 × St) := J146 (1 : Int32) s32
def mX11_late_109 (y13 : Int32) (J76 : Int32 → Int32 → St → Option (Int32 × St)) (y14 : Int32) (y10 : Int64) (x18 : Int32) (J109 : Int32 → Int32 → St → Option (Int32 × St)) (y21 : Int32) (y22 : Int32) (s23 : St) : Option (Int32 × St) := kl (mX11_late_154 y13 J76 y14 y21) (fun J154 => if (36 : Int32) ≤ y22 then (J154 s23) else (if y21 = 0 then (J154 s23) else (cl2 (mX11_isOn y10 y22 s23) (fun x29 s28 => kl (mX11_late_146 J109 y22) (fun J146 => kl (mX11_late_141 J146) (fun J141 => if x29 = 0 then (J141 s28) else (cl2 (mX11_isOff x18 y22 s28) (fun x34 s33 => if x34 = 0 then (J141 s33) else (J146 (0 : Int32) s33)))))))))
def mX11_late_104 (y13 : Int32) (J76 : Int32 → Int32 → St → Option (Int32 × St)) (y14 : Int32) (y10 : Int64) (x18 : Int32) (y19 : Int32) (s20 : St) : Option (Int32 × St) := kl (lp (fun _ _ _ => none) (mX11_late_109 y13 J76 y14 y10 x18) 2000) (fun J109 => J109 y19 (0 : Int32) s20)
def mX11_late_76 (y10 : Int64) (J76 : Int32 → Int32 → St → Option (Int32 × St)) (y13 : Int32) (y14 : Int32) (s15 : St) : Option (Int32 × St) := if (5 : Int32) ≤ y14 then (some (y13, s15)) else (kl (gI s15 45 5) (fun x16 => cl2 (mX11_goneTo x16 y14 s15) (fun x18 s17 => kl (mX11_late_104 y13 J76 y14 y10 x18) (fun J104 => if x18 < 0 then (J104 (0 : Int32) s17) else (J104 (1 : Int32) s17)))))
def mX11_late_52 (a2 : Int32) (J52 : Int64 → Int32 → St → Option (Int32 × St)) (y10 : Int64) (y11 : Int32) (s12 : St) : Option (Int32 × St) := if a2 < y11 then (kl (lp (fun _ _ _ => none) (mX11_late_76 y10) 2000) (fun J76 => J76 (0 : Int32) (0 : Int32) s12)) else (cl2 (mX11_goOn y10 s12) (fun x36 s35 => J52 x36 ((y11 + 1)) s35))
def mX11_late (a1 : Int32) (a2 : Int32) (s0 : St) : Option (Int32 × St) := kl (pI s0 45 16 (0 : Int32)) (fun s1 => cl2 (mX11_isCell (a1.toInt64) s1) (fun x3 s2 => if x3 = 0 then (some ((-1 : Int32), s2)) else (cl2 (mX11_in (a2.toInt64) (0 : Int64) (8 : Int64) s2) (fun x5 s4 => if x5 = 0 then (some ((-1 : Int32), s4)) else (kl (gI s4 45 5) (fun x6 => if x6 < 0 then (some ((-3 : Int32), s4)) else (cl2 (mX11_isOpen a1 s4) (fun x8 s7 => if x8 = 0 then (some ((-3 : Int32), s7)) else (kl (((1 : Int64) <<< (a1.toInt64 &&& 63))) (fun x9 => kl (lp (fun _ _ _ => none) (mX11_late_52 a2) 2000) (fun J52 => J52 x9 (0 : Int32) s7)))))))))))
def mX11_wrongCells_14 (a1 : Int32) (J14 : Int32 → St → Option (Int32 × St)) (y3 : Int32) (s4 : St) : Option (Int32 × St) := ldA s4 52 8 a1 (fun x5 => if x5 ≤ y3 then (ldA s4 52 8 a1 (fun x6 => if x6 = 0 then (some ((-13 : Int32), s4)) else (some ((0 : Int32), s4)))) else (ldL s4 53 800 (((100 : Int32) * a1) + y3) (fun x7 => cl2 (mX11_isCell x7 s4) (fun x9 s8 => if x9 = 0 then (some ((-13 : Int32), s8)) else (J14 ((y3 + 1)) s8)))))
def mX11_wrongCells (a1 : Int32) (s0 : St) : Option (Int32 × St) := cl2 (mX11_wrongRow a1 s0) (fun x2 s1 => if 0 ≤ x2 then (kl (lp (fun _ _ => none) (mX11_wrongCells_14 a1) 2000) (fun J14 => J14 (0 : Int32) s1)) else (some (x2, s1)))
def mX11_notOff_53 (y1 : Int64) (J6 : Int64 → Int32 → St → Option (Int64 × St)) (y2 : Int32) (y6 : Int64) (s7 : St) : Option (Int64 × St) := kl ((y1 ||| y6)) (fun x8 => J6 x8 ((y2 + 1)) s7)
def mX11_notOff_52 (J53 : Int64 → St → Option (Int64 × St)) (s9 : St) : Option (Int64 × St) := J53 (0 : Int64) s9
def mX11_notOff_6 (a3 : Int64) (a1 : Int32) (a2 : Int32) (J6 : Int64 → Int32 → St → Option (Int64 × St)) (y1 : Int64) (y2 : Int32) (s3 : St) : Option (Int64 × St) := if (36 : Int32) ≤ y2 then (some (y1, s3)) else (cl2 (mX11_isOn a3 y2 s3) (fun x5 s4 => kl (mX11_notOff_53 y1 J6 y2) (fun J53 => kl (mX11_notOff_52 J53) (fun J52 => if x5 = 0 then (J52 s4) else (ldL s4 53 800 (((100 : Int32) * a1) + a2) (fun x10 => cl2 (mX11_isOff (x10.toInt32) y2 s4) (fun x12 s11 => if x12 = 0 then (J53 (((1 : Int64) <<< (y2.toInt64 &&& 63))) s11) else (J52 s11))))))))
def mX11_notOff (a1 : Int32) (a2 : Int32) (a3 : Int64) (s0 : St) : Option (Int64 × St) := kl (lp (fun _ _ _ => none) (mX11_notOff_6 a3 a1 a2) 2000) (fun J6 => J6 (0 : Int64) (0 : Int32) s0)
def mX11_toTheLast_8 (a1 : Int32) (J8 : Int64 → Int32 → St → Option (Int64 × St)) (y2 : Int64) (y3 : Int32) (s4 : St) : Option (Int64 × St) := ldA s4 52 8 a1 (fun x5 => if x5 ≤ y3 then (some (y2, s4)) else (cl2 (mX11_goOn y2 s4) (fun x7 s6 => cl2 (mX11_notOff a1 y3 x7 s6) (fun x9 s8 => J8 x9 ((y3 + 1)) s8))))
def mX11_toTheLast (a1 : Int32) (a2 : Int32) (a3 : Int64) (s0 : St) : Option (Int64 × St) := kl ((a2 + (1 : Int32))) (fun x1 => kl (lp (fun _ _ _ => none) (mX11_toTheLast_8 a1) 2000) (fun J8 => J8 a3 x1 s0))
def mX11_hisWay_24 (a1 : Int32) (a2 : Int32) (y4 : Int32) (s5 : St) : Option (Int64 × St) := if 0 ≤ y4 then (cl2 (mX11_openCells s5) (fun x7 s6 => cl2 (mX11_notOff a1 (0 : Int32) x7 s6) (fun x9 s8 => cl2 (mX11_toTheLast a1 (0 : Int32) x9 s8) (fun x11 s10 => if a2 = 0 then (some (x11, s10)) else (cl2 (mX11_onesOf x11 s10) (fun x13 s12 => some (x13.toInt64, s12))))))) else (some ((y4 - (1000000000 : Int32)).toInt64, s5))
def mX11_hisWay (a1 : Int32) (a2 : Int32) (s0 : St) : Option (Int64 × St) := kl (pI s0 45 16 (0 : Int32)) (fun s1 => cl2 (mX11_in (a2.toInt64) (0 : Int64) (1 : Int64) s1) (fun x3 s2 => kl (mX11_hisWay_24 a1 a2) (fun J24 => if x3 = 0 then (J24 (-1 : Int32) s2) else (cl2 (mX11_wrongCells a1 s2) (fun x15 s14 => J24 x15 s14)))))
def mX11_letter_178 (J39 : Int32 → Int32 → Int64 → Int32 → St → Option (Int32 × St)) (y19 : Int32) (y14 : Int64) (y11 : Int32) (y21 : Int32) (s22 : St) : Option (Int32 × St) := J39 y19 y21 y14 ((y11 + 1)) s22
def mX11_letter_176 (J178 : Int32 → St → Option (Int32 × St)) (y9 : Int32) (s23 : St) : Option (Int32 × St) := J178 y9 s23
def mX11_letter_158 (J39 : Int32 → Int32 → Int64 → Int32 → St → Option (Int32 × St)) (y14 : Int64) (y11 : Int32) (y9 : Int32) (y16 : Int32) (y19 : Int32) (s20 : St) : Option (Int32 × St) := kl (mX11_letter_178 J39 y19 y14 y11) (fun J178 => kl (mX11_letter_176 J178 y9) (fun J176 => if y16 ≤ 0 then (J176 s20) else (if y9 ≤ y16 then (J176 s20) else (J178 y16 s20))))
def mX11_letter_157 (J158 : Int32 → St → Option (Int32 × St)) (y8 : Int32) (s24 : St) : Option (Int32 × St) := J158 y8 s24
def mX11_letter_132 (J81 : Int32 → Int32 → St → Option (Int32 × St)) (y17 : Int32) (y29 : Int32) (s30 : St) : Option (Int32 × St) := J81 y29 ((y17 + 1)) s30
def mX11_letter_116 (J81 : Int32 → Int32 → St → Option (Int32 × St)) (y17 : Int32) (y16 : Int32) (y27 : Int32) (s28 : St) : Option (Int32 × St) := kl (mX11_letter_132 J81 y17) (fun J132 => if y27 ≤ y16 then (J132 y16 s28) else (J132 y27 s28))
def mX11_letter_81 (J39 : Int32 → Int32 → Int64 → Int32 → St → Option (Int32 × St)) (y14 : Int64) (y11 : Int32) (y9 : Int32) (y8 : Int32) (a1 : Int32) (J81 : Int32 → Int32 → St → Option (Int32 × St)) (y16 : Int32) (y17 : Int32) (s18 : St) : Option (Int32 × St) := if (36 : Int32) ≤ y17 then (kl (mX11_letter_158 J39 y14 y11 y9 y16) (fun J158 => kl (mX11_letter_157 J158 y8) (fun J157 => if y16 ≤ 0 then (J157 s18) else (if y9 ≤ y16 then (J157 s18) else (J158 y11 s18))))) else (cl2 (mX11_isOn y14 y17 s18) (fun x26 s25 => kl (mX11_letter_116 J81 y17 y16) (fun J116 => if x26 = 0 then (J116 (0 : Int32) s25) else (cl2 (mX11_toTheLast a1 y11 ((1 : Int64) <<< (y17.toInt64 &&& 63)) s25) (fun x32 s31 => cl2 (mX11_onesOf x32 s31) (fun x34 s33 => J116 x34 s33))))))
def mX11_letter_73 (J39 : Int32 → Int32 → Int64 → Int32 → St → Option (Int32 × St)) (y11 : Int32) (y9 : Int32) (y8 : Int32) (a1 : Int32) (y14 : Int64) (s15 : St) : Option (Int32 × St) := kl (lp (fun _ _ _ => none) (mX11_letter_81 J39 y14 y11 y9 y8 a1) 2000) (fun J81 => J81 (0 : Int32) (0 : Int32) s15)
def mX11_letter_39 (a1 : Int32) (J39 : Int32 → Int32 → Int64 → Int32 → St → Option (Int32 × St)) (y8 : Int32) (y9 : Int32) (y10 : Int64) (y11 : Int32) (s12 : St) : Option (Int32 × St) := ldA s12 52 8 a1 (fun x13 => if x13 ≤ y11 then (some (y8, s12)) else (kl (mX11_letter_73 J39 y11 y9 y8 a1) (fun J73 => if y11 = 0 then (J73 y10 s12) else (cl2 (mX11_goOn y10 s12) (fun x36 s35 => cl2 (mX11_notOff a1 y11 x36 s35) (fun x38 s37 => J73 x38 s37))))))
def mX11_letter (a1 : Int32) (s0 : St) : Option (Int32 × St) := kl (pI s0 45 16 (0 : Int32)) (fun s1 => cl2 (mX11_wrongCells a1 s1) (fun x3 s2 => if 0 ≤ x3 then (cl2 (mX11_openCells s2) (fun x5 s4 => cl2 (mX11_notOff a1 (0 : Int32) x5 s4) (fun x7 s6 => kl (lp (fun _ _ _ _ _ => none) (mX11_letter_39 a1) 2000) (fun J39 => J39 (-4 : Int32) (99 : Int32) x7 (0 : Int32) s6)))) else (some (x3, s2))))
def mX11_third_112 (J35 : Int32 → Int32 → Int32 → St → Option (Int32 × St)) (x16 : Int32) (y8 : Int32) (y17 : Int32) (s18 : St) : Option (Int32 × St) := J35 x16 y17 ((y8 + 1)) s18
def mX11_third_111 (J112 : Int32 → St → Option (Int32 × St)) (y7 : Int32) (s19 : St) : Option (Int32 × St) := J112 y7 s19
def mX11_third_95 (y6 : Int32) (J35 : Int32 → Int32 → Int32 → St → Option (Int32 × St)) (y8 : Int32) (y7 : Int32) (y12 : Int32) (y14 : Int32) (s15 : St) : Option (Int32 × St) := kl ((y6 + y14)) (fun x16 => kl (mX11_third_112 J35 x16 y8) (fun J112 => kl (mX11_third_111 J112 y7) (fun J111 => if y12 = 0 then (J111 s15) else (if 0 ≤ y7 then (J111 s15) else (J112 y8 s15)))))
def mX11_third_82 (y6 : Int32) (J35 : Int32 → Int32 → Int32 → St → Option (Int32 × St)) (y8 : Int32) (y7 : Int32) (y12 : Int32) (s13 : St) : Option (Int32 × St) := kl (mX11_third_95 y6 J35 y8 y7 y12) (fun J95 => if y12 = 0 then (J95 (0 : Int32) s13) else (J95 (1 : Int32) s13))
def mX11_third_81 (J82 : Int32 → St → Option (Int32 × St)) (s20 : St) : Option (Int32 × St) := J82 (0 : Int32) s20
def mX11_third_35 (a1 : Int32) (J35 : Int32 → Int32 → Int32 → St → Option (Int32 × St)) (y6 : Int32) (y7 : Int32) (y8 : Int32) (s9 : St) : Option (Int32 × St) := if (36 : Int32) ≤ y8 then (if a1 = 0 then (some (y6, s9)) else (some (y7, s9))) else (cl2 (mX11_isOpen y8 s9) (fun x11 s10 => kl (mX11_third_82 y6 J35 y8 y7) (fun J82 => kl (mX11_third_81 J82) (fun J81 => if x11 = 0 then (J81 s10) else (kl (gI s10 45 5) (fun x21 => cl2 (mX11_isOff x21 y8 s10) (fun x23 s22 => if x23 = 0 then (kl (gI s22 45 6) (fun x24 => cl2 (mX11_isOff x24 y8 s22) (fun x26 s25 => if x26 = 0 then (J82 (1 : Int32) s25) else (J81 s25)))) else (J81 s22))))))))
def mX11_third (a1 : Int32) (s0 : St) : Option (Int32 × St) := kl (pI s0 45 16 (0 : Int32)) (fun s1 => cl2 (mX11_in (a1.toInt64) (0 : Int64) (1 : Int64) s1) (fun x3 s2 => if x3 = 0 then (some ((-1 : Int32), s2)) else (cl2 (mX11_areBoth s2) (fun x5 s4 => if x5 = 0 then (some ((-3 : Int32), s4)) else (kl (lp (fun _ _ _ _ => none) (mX11_third_35 a1) 2000) (fun J35 => J35 (0 : Int32) (-4 : Int32) (0 : Int32) s4))))))
def mX11_farBy_30 (s7 : St) : Option (Int32 × St) := some ((-1 : Int32), s7)
def mX11_farBy (a1 : Int32) (a2 : Int32) (s0 : St) : Option (Int32 × St) := kl (gI s0 45 5) (fun x1 => cl2 (mX11_goneTo x1 a1 s0) (fun x3 s2 => kl (gI s2 45 6) (fun x4 => cl2 (mX11_goneTo x4 a2 s2) (fun x6 s5 => kl (mX11_farBy_30) (fun J30 => if x3 < 0 then (J30 s5) else (if 0 ≤ x6 then (cl2 (mX11_farOf x3 x6 s5) (fun x9 s8 => some (x9, s8))) else (J30 s5)))))))
def mX11_rests_77 (J21 : Int32 → Int32 → St → Option (Int32 × St)) (y6 : Int32) (y12 : Int32) (s13 : St) : Option (Int32 × St) := J21 y12 ((y6 + 1)) s13
def mX11_rests_76 (J77 : Int32 → St → Option (Int32 × St)) (s14 : St) : Option (Int32 × St) := J77 (0 : Int32) s14
def mX11_rests_72 (J77 : Int32 → St → Option (Int32 × St)) (s16 : St) : Option (Int32 × St) := J77 (1 : Int32) s16
def mX11_rests_61 (J77 : Int32 → St → Option (Int32 × St)) (x11 : Int32) (x2 : Int32) (J76 : St → Option (Int32 × St)) (s15 : St) : Option (Int32 × St) := kl (mX11_rests_72 J77) (fun J72 => if x11 < 0 then (J72 s15) else (if x2 < x11 then (J76 s15) else (J72 s15)))
def mX11_rests_21 (a2 : Int32) (a1 : Int32) (x2 : Int32) (J21 : Int32 → Int32 → St → Option (Int32 × St)) (y5 : Int32) (y6 : Int32) (s7 : St) : Option (Int32 × St) := if (5 : Int32) ≤ y6 then (rz y5 s7) else (cl2 (mX11_farBy y6 a2 s7) (fun x9 s8 => cl2 (mX11_farBy a1 y6 s8) (fun x11 s10 => kl (mX11_rests_77 J21 y6) (fun J77 => kl (mX11_rests_76 J77) (fun J76 => if y5 = 0 then (J76 s10) else (kl (mX11_rests_61 J77 x11 x2 J76) (fun J61 => if x9 < 0 then (J61 s10) else (if x9 < x2 then (J76 s10) else (J61 s10)))))))))
def mX11_rests_16 (a2 : Int32) (a1 : Int32) (x2 : Int32) (y3 : Int32) (s4 : St) : Option (Int32 × St) := kl (lp (fun _ _ _ => none) (mX11_rests_21 a2 a1 x2) 2000) (fun J21 => J21 y3 (0 : Int32) s4)
def mX11_rests (a1 : Int32) (a2 : Int32) (s0 : St) : Option (Int32 × St) := cl2 (mX11_farBy a1 a2 s0) (fun x2 s1 => kl (mX11_rests_16 a2 a1 x2) (fun J16 => if x2 < 0 then (J16 (0 : Int32) s1) else (J16 (1 : Int32) s1)))
def mX11_game_128 (J37 : Int32 → Int32 → Int32 → St → Option (Int32 × St)) (y10 : Int32) (y8 : Int32) (y14 : Int32) (s15 : St) : Option (Int32 × St) := J37 y10 y14 ((y8 + (-1))) s15
def mX11_game_127 (J128 : Int32 → St → Option (Int32 × St)) (y7 : Int32) (s16 : St) : Option (Int32 × St) := J128 y7 s16
def mX11_game_103 (J48 : Int32 → Int32 → Int32 → St → Option (Int32 × St)) (y19 : Int32) (y12 : Int32) (y23 : Int32) (s24 : St) : Option (Int32 × St) := J48 y19 y23 ((y12 + (-1))) s24
def mX11_game_76 (y8 : Int32) (y12 : Int32) (J48 : Int32 → Int32 → Int32 → St → Option (Int32 × St)) (y11 : Int32) (y19 : Int32) (s20 : St) : Option (Int32 × St) := cl2 (mX11_farBy y8 y12 s20) (fun x22 s21 => kl (mX11_game_103 J48 y19 y12) (fun J103 => if x22 ≤ y11 then (J103 y11 s21) else (cl2 (mX11_farBy y8 y12 s21) (fun x26 s25 => J103 x26 s25))))
def mX11_game_48 (J37 : Int32 → Int32 → Int32 → St → Option (Int32 × St)) (y8 : Int32) (y7 : Int32) (J48 : Int32 → Int32 → Int32 → St → Option (Int32 × St)) (y10 : Int32) (y11 : Int32) (y12 : Int32) (s13 : St) : Option (Int32 × St) := if y12 < 0 then (kl (mX11_game_128 J37 y10 y8) (fun J128 => kl (mX11_game_127 J128 y7) (fun J127 => if y11 < 0 then (J127 s13) else (if y7 ≤ y11 then (J127 s13) else (J128 y11 s13))))) else (cl2 (mX11_rests y8 y12 s13) (fun x18 s17 => kl (mX11_game_76 y8 y12 J48 y11) (fun J76 => if x18 = 0 then (J76 y10 s17) else (J76 ((((10 : Int32) * y8) + y12)) s17))))
def mX11_game_37 (a1 : Int32) (J37 : Int32 → Int32 → Int32 → St → Option (Int32 × St)) (y6 : Int32) (y7 : Int32) (y8 : Int32) (s9 : St) : Option (Int32 × St) := if y8 < 0 then (if a1 = 0 then (some (y6, s9)) else (some (y7, s9))) else (kl (lp (fun _ _ _ _ => none) (mX11_game_48 J37 y8 y7) 2000) (fun J48 => J48 y6 (-1 : Int32) (4 : Int32) s9))
def mX11_game (a1 : Int32) (s0 : St) : Option (Int32 × St) := kl (pI s0 45 16 (0 : Int32)) (fun s1 => cl2 (mX11_in (a1.toInt64) (0 : Int64) (1 : Int64) s1) (fun x3 s2 => if x3 = 0 then (some ((-1 : Int32), s2)) else (cl2 (mX11_areBoth s2) (fun x5 s4 => if x5 = 0 then (some ((-3 : Int32), s4)) else (kl (lp (fun _ _ _ _ => none) (mX11_game_37 a1) 2000) (fun J37 => J37 (-4 : Int32) (999 : Int32) (4 : Int32) s4))))))
def mX11_divisor_6 (J6 : Int64 → Int64 → St → Option (Int64 × St)) (y1 : Int64) (y2 : Int64) (s3 : St) : Option (Int64 × St) := if (lg_cmp y2 (0 : Int64)) = 0 then (some (y1, s3)) else (dvL y2 (kl ((y1 - y1 / y2 * y2)) (fun x4 => J6 y2 x4 s3)))
def mX11_divisor (a0 : Int64) (a2 : Int64) (s0 : St) : Option (Int64 × St) := kl (lp (fun _ _ _ => none) (mX11_divisor_6) 2000) (fun J6 => J6 a0 a2 s0)
def mX11_partOf (a0 : Int64) (a2 : Int64) (a4 : Int32) (s0 : St) : Option (Int64 × St) := if (lg_cmp a0 (0 : Int64)) = 0 then (some (a4.toInt64, s0)) else (cl2 (mX11_divisor a0 a2 s0) (fun x2 s1 => if a4 = 0 then (dvL x2 (some ((a0 / x2), s1))) else (dvL x2 (some ((a2 / x2), s1)))))
def mX11_isWay_92 (J24 : Int64 → Int32 → St → Option (Int32 × St)) (y10 : Int64) (y13 : Int32) (s14 : St) : Option (Int32 × St) := J24 y10 ((y13 + 1)) s14
def mX11_isWay_83 (y10 : Int64) (J34 : Int64 → Int32 → St → Option (Int32 × St)) (y11 : Int32) (y19 : Int64) (s20 : St) : Option (Int32 × St) := kl ((y10 ||| y19)) (fun x21 => J34 x21 ((y11 + 1)) s20)
def mX11_isWay_82 (J83 : Int64 → St → Option (Int32 × St)) (s22 : St) : Option (Int32 × St) := J83 (0 : Int64) s22
def mX11_isWay_34 (J24 : Int64 → Int32 → St → Option (Int32 × St)) (y8 : Int32) (y2 : Int64) (a0 : Int64) (J34 : Int64 → Int32 → St → Option (Int32 × St)) (y10 : Int64) (y11 : Int32) (s12 : St) : Option (Int32 × St) := kl (mX11_isWay_92 J24 y10) (fun J92 => if (5 : Int32) ≤ y11 then (J92 y8 s12) else (cl2 (mX11_isOn y2 y8 s12) (fun x16 s15 => if x16 = 0 then (J92 y8 s15) else (cl2 (mX11_beside y8 y11 s15) (fun x18 s17 => kl (mX11_isWay_83 y10 J34 y11) (fun J83 => kl (mX11_isWay_82 J83) (fun J82 => if x18 < 0 then (J82 s17) else (cl2 (mX11_isOn a0 x18 s17) (fun x24 s23 => if x24 = 0 then (J82 s23) else (J83 (((1 : Int64) <<< (x18.toInt64 &&& 63))) s23))))))))))
def mX11_isWay_24 (J10 : Int64 → Int32 → St → Option (Int32 × St)) (y3 : Int32) (y2 : Int64) (a0 : Int64) (J24 : Int64 → Int32 → St → Option (Int32 × St)) (y7 : Int64) (y8 : Int32) (s9 : St) : Option (Int32 × St) := if (36 : Int32) ≤ y8 then (J10 y7 ((y3 + 1)) s9) else (kl (lp (fun _ _ _ => none) (mX11_isWay_34 J24 y8 y2 a0) 2000) (fun J34 => J34 y7 (1 : Int32) s9))
def mX11_isWay_10 (a3 : Int32) (a0 : Int64) (J10 : Int64 → Int32 → St → Option (Int32 × St)) (y2 : Int64) (y3 : Int32) (s4 : St) : Option (Int32 × St) := if (36 : Int32) ≤ y3 then (cl2 (mX11_isOn y2 a3 s4) (fun x6 s5 => rz x6 s5)) else (kl (lp (fun _ _ _ => none) (mX11_isWay_24 J10 y3 y2 a0) 2000) (fun J24 => J24 y2 (0 : Int32) s4))
def mX11_isWay (a0 : Int64) (a2 : Int32) (a3 : Int32) (s0 : St) : Option (Int32 × St) := kl ((((1 : Int64) <<< (a2.toInt64 &&& 63)) &&& a0)) (fun x1 => kl (lp (fun _ _ _ => none) (mX11_isWay_10 a3 a0) 2000) (fun J10 => J10 x1 (0 : Int32) s0))
def mX11_snow_31 (s4 : St) : Option (Int64 × St) := some ((-1000000001 : Int64), s4)
def mX11_snow_269 (y14 : Int64) (J138 : Int64 → Int32 → St → Option (Int64 × St)) (y15 : Int32) (y25 : Int64) (s26 : St) : Option (Int64 × St) := kl ((y14 + y25)) (fun x27 => J138 x27 ((y15 + 1)) s26)
def mX11_snow_242 (y20 : Int64) (J157 : Int64 → Int64 → Int32 → St → Option (Int64 × St)) (x32 : Int64) (y21 : Int32) (y33 : Int64) (s34 : St) : Option (Int64 × St) := kl ((y20 * y33)) (fun x35 => J157 x32 x35 ((y21 + 1)) s34)
def mX11_snow_202 (y19 : Int64) (y20 : Int64) (J157 : Int64 → Int64 → Int32 → St → Option (Int64 × St)) (y21 : Int32) (y28 : Int32) (y30 : Int64) (s31 : St) : Option (Int64 × St) := kl ((y19 ||| y30)) (fun x32 => kl (mX11_snow_242 y20 J157 x32 y21) (fun J242 => if y28 = 0 then (ldA s31 64 8 y21 (fun x36 => cl2 (mX11_chanceOf x36 s31) (fun x38 s37 => J242 (((10 : Int32) - x38).toInt64) s37))) else (ldA s31 64 8 y21 (fun x39 => cl2 (mX11_chanceOf x39 s31) (fun x41 s40 => J242 (x41.toInt64) s40)))))
def mX11_snow_180 (y19 : Int64) (y20 : Int64) (J157 : Int64 → Int64 → Int32 → St → Option (Int64 × St)) (y21 : Int32) (y28 : Int32) (s29 : St) : Option (Int64 × St) := kl (mX11_snow_202 y19 y20 J157 y21 y28) (fun J202 => if y28 = 0 then (J202 (0 : Int64) s29) else (ldA s29 64 8 y21 (fun x42 => J202 (((1 : Int64) <<< (x42.toInt64 &&& 63))) s29)))
def mX11_snow_157 (y10 : Int32) (a1 : Int32) (a2 : Int32) (y14 : Int64) (J138 : Int64 → Int32 → St → Option (Int64 × St)) (y15 : Int32) (J157 : Int64 → Int64 → Int32 → St → Option (Int64 × St)) (y19 : Int64) (y20 : Int64) (y21 : Int32) (s22 : St) : Option (Int64 × St) := if y10 ≤ y21 then (cl2 (mX11_isWay y19 a1 a2 s22) (fun x24 s23 => kl (mX11_snow_269 y14 J138 y15) (fun J269 => if x24 = 0 then (J269 (0 : Int64) s23) else (J269 y20 s23)))) else (kl (mX11_snow_180 y19 y20 J157 y21) (fun J180 => if ((y15 >>> (y21 &&& 31)) &&& (1 : Int32)) = (1 : Int32) then (J180 (1 : Int32) s22) else (J180 (0 : Int32) s22)))
def mX11_snow_138 (y10 : Int32) (y11 : Int64) (a3 : Int32) (a1 : Int32) (a2 : Int32) (y9 : Int64) (J138 : Int64 → Int32 → St → Option (Int64 × St)) (y14 : Int64) (y15 : Int32) (s16 : St) : Option (Int64 × St) := if ((1 : Int32) <<< (y10 &&& 31)) ≤ y15 then (cl2 (mX11_partOf y14 y11 a3 s16) (fun x18 s17 => some (x18, s17))) else (kl (lp (fun _ _ _ _ => none) (mX11_snow_157 y10 a1 a2 y14 J138 y15) 2000) (fun J157 => J157 y9 (1 : Int64) (0 : Int32) s16))
def mX11_snow_126 (J47 : Int64 → Int32 → Int64 → Int32 → St → Option (Int64 × St)) (x47 : Int64) (y52 : Int32) (y53 : Int64) (y54 : Int32) (s55 : St) : Option (Int64 × St) := J47 x47 y52 y53 ((y54 + 1)) s55
def mX11_snow_75 (y9 : Int64) (y12 : Int32) (J47 : Int64 → Int32 → Int64 → Int32 → St → Option (Int64 × St)) (y10 : Int32) (y11 : Int64) (y45 : Int64) (s46 : St) : Option (Int64 × St) := kl ((y9 ||| y45)) (fun x47 => cl2 (mX11_chanceOf y12 s46) (fun x49 s48 => cl2 (mX11_in (x49.toInt64) (1 : Int64) (9 : Int64) s48) (fun x51 s50 => kl (mX11_snow_126 J47 x47) (fun J126 => if x51 = 0 then (J126 y10 y11 y12 s50) else (if y10 = (8 : Int32) then (some ((-1000000003 : Int64), s50)) else (stA s50 64 8 y10 y12 (fun s56 => kl ((y11 * (10 : Int64))) (fun x57 => J126 ((y10 + 1)) x57 y12 s56))))))))
def mX11_snow_47 (a3 : Int32) (a1 : Int32) (a2 : Int32) (J47 : Int64 → Int32 → Int64 → Int32 → St → Option (Int64 × St)) (y9 : Int64) (y10 : Int32) (y11 : Int64) (y12 : Int32) (s13 : St) : Option (Int64 × St) := if (36 : Int32) ≤ y12 then (kl (lp (fun _ _ _ => none) (mX11_snow_138 y10 y11 a3 a1 a2 y9) 2000) (fun J138 => J138 (0 : Int64) (0 : Int32) s13)) else (cl2 (mX11_chanceOf y12 s13) (fun x44 s43 => kl (mX11_snow_75 y9 y12 J47 y10 y11) (fun J75 => if x44 = (10 : Int32) then (J75 (((1 : Int64) <<< (y12.toInt64 &&& 63))) s43) else (J75 (0 : Int64) s43))))
def mX11_snow (a1 : Int32) (a2 : Int32) (a3 : Int32) (s0 : St) : Option (Int64 × St) := kl (pI s0 45 16 (0 : Int32)) (fun s1 => cl2 (mX11_isCell (a1.toInt64) s1) (fun x3 s2 => kl (mX11_snow_31) (fun J31 => if x3 = 0 then (J31 s2) else (cl2 (mX11_isCell (a2.toInt64) s2) (fun x6 s5 => if x6 = 0 then (J31 s5) else (cl2 (mX11_in (a3.toInt64) (0 : Int64) (1 : Int64) s5) (fun x8 s7 => if x8 = 0 then (J31 s7) else (kl (lp (fun _ _ _ _ _ => none) (mX11_snow_47 a3 a1 a2) 2000) (fun J47 => J47 (0 : Int64) (0 : Int32) (1 : Int64) (0 : Int32) s7)))))))))
def mX11_mean_69 (y4 : Int64) (J24 : Int64 → Int32 → St → Option (Int64 × St)) (y5 : Int32) (y15 : Int64) (s16 : St) : Option (Int64 × St) := kl ((y4 + y15)) (fun x17 => J24 x17 ((y5 + 1)) s16)
def mX11_mean_24 (a1 : Int32) (J24 : Int64 → Int32 → St → Option (Int64 × St)) (y4 : Int64) (y5 : Int32) (s6 : St) : Option (Int64 × St) := if (1296 : Int32) ≤ y5 then (cl2 (mX11_pairMany s6) (fun x8 s7 => if x8 = 0 then (some (a1.toInt64, s7)) else (cl2 (mX11_pairMany s7) (fun x10 s9 => cl2 (mX11_partOf y4 (x10.toInt64) a1 s9) (fun x12 s11 => some (x12, s11)))))) else (cl2 (mX11_isPair (y5 / (36 : Int32)) (y5 - y5 / (36 : Int32) * (36 : Int32)) s6) (fun x14 s13 => kl (mX11_mean_69 y4 J24 y5) (fun J69 => if x14 = 0 then (J69 (0 : Int64) s13) else (cl2 (mX11_farOf (y5 / (36 : Int32)) (y5 - y5 / (36 : Int32) * (36 : Int32)) s13) (fun x19 s18 => J69 (x19.toInt64) s18)))))
def mX11_mean (a1 : Int32) (s0 : St) : Option (Int64 × St) := kl (pI s0 45 16 (0 : Int32)) (fun s1 => cl2 (mX11_in (a1.toInt64) (0 : Int64) (1 : Int64) s1) (fun x3 s2 => if x3 = 0 then (some ((-1000000001 : Int64), s2)) else (kl (lp (fun _ _ _ => none) (mX11_mean_24 a1) 2000) (fun J24 => J24 (0 : Int64) (0 : Int32) s2))))
def mX11_curve (a1 : Int32) (s0 : St) : Option (Int32 × St) := kl (pI s0 45 16 (0 : Int32)) (fun s1 => cl2 (mX11_in (a1.toInt64) (0 : Int64) (20 : Int64) s1) (fun x3 s2 => if x3 = 0 then (some ((-1 : Int32), s2)) else (kl (gI s2 45 4) (fun x4 => kl (pI s2 45 4 a1) (fun s5 => cl2 (mX11_pairMany s5) (fun x7 s6 => kl (pI s6 45 4 x4) (fun s8 => some (x7, s8))))))))
def mX11_skipped (a1 : Int32) (s0 : St) : Option (Int64 × St) := ldA s0 51 8 a1 (fun x1 => if x1 = 0 then (some ((-128 : Int64), s0)) else (ldA s0 51 8 a1 (fun x2 => if x2 = (1 : Int32) then (some ((-2147483648 : Int64), s0)) else (some ((-9223372036854775808 : Int64), s0)))))
def mX11_stayOrGo (a1 : Int64) (s0 : St) : Option (Int64 × St) := cl2 (mX11_goOn a1 s0) (fun x2 s1 => some ((x2 ||| a1), s1))
def mX11_judge_160 (J55 : Int64 → Int32 → St → Option (Int32 × St)) (y17 : Int64) (y18 : Int32) (s19 : St) : Option (Int32 × St) := J55 y17 ((y18 + 1)) s19
def mX11_judge_144 (y9 : Int32) (x12 : Int64) (J160 : Int64 → Int32 → St → Option (Int32 × St)) (y22 : Int32) (s23 : St) : Option (Int32 × St) := if y22 = 0 then (some (y9, s23)) else (kl (((1 : Int64) <<< (x12.toInt32.toInt64 &&& 63))) (fun x24 => J160 x24 y9 s23))
def mX11_judge_143 (J144 : Int32 → St → Option (Int32 × St)) (s25 : St) : Option (Int32 × St) := J144 (0 : Int32) s25
def mX11_judge_139 (J144 : Int32 → St → Option (Int32 × St)) (s28 : St) : Option (Int32 × St) := J144 (1 : Int32) s28
def mX11_judge_94 (a1 : Int32) (J55 : Int64 → Int32 → St → Option (Int32 × St)) (x12 : Int64) (y9 : Int32) (y13 : Int64) (s14 : St) : Option (Int32 × St) := cl2 (mX11_skipped a1 s14) (fun x16 s15 => kl (mX11_judge_160 J55) (fun J160 => if (lg_cmp x12 x16) = 0 then (J160 y13 y9 s15) else (cl2 (mX11_isCell x12 s15) (fun x21 s20 => kl (mX11_judge_144 y9 x12 J160) (fun J144 => kl (mX11_judge_143 J144) (fun J143 => if x21 = 0 then (J143 s20) else (cl2 (mX11_isOn y13 (x12.toInt32) s20) (fun x27 s26 => if x27 = 0 then (J143 s26) else (kl (mX11_judge_139 J144) (fun J139 => if y9 = 0 then (J139 s26) else (cl2 (mX11_isOpen (x12.toInt32) s26) (fun x30 s29 => if x30 = 0 then (J143 s29) else (J139 s29)))))))))))))
def mX11_judge_55 (a1 : Int32) (J55 : Int64 → Int32 → St → Option (Int32 × St)) (y8 : Int64) (y9 : Int32) (s10 : St) : Option (Int32 × St) := ldA s10 52 8 a1 (fun x11 => if x11 ≤ y9 then (some ((-4 : Int32), s10)) else (ldL s10 53 800 (((100 : Int32) * a1) + y9) (fun x12 => kl (mX11_judge_94 a1 J55 x12 y9) (fun J94 => if y9 = 0 then (J94 y8 s10) else (cl2 (mX11_stayOrGo y8 s10) (fun x32 s31 => J94 x32 s31))))))
def mX11_judge_38 (a1 : Int32) (y4 : Int32) (s5 : St) : Option (Int32 × St) := if 0 ≤ y4 then (kl (gI s5 45 5) (fun x6 => kl (((1 : Int64) <<< (x6.toInt64 &&& 63))) (fun x7 => kl (lp (fun _ _ _ => none) (mX11_judge_55 a1) 2000) (fun J55 => J55 x7 (0 : Int32) s5)))) else (some (y4, s5))
def mX11_judge (a1 : Int32) (s0 : St) : Option (Int32 × St) := kl (pI s0 45 16 (0 : Int32)) (fun s1 => cl2 (mX11_in (a1.toInt64) (0 : Int64) (7 : Int64) s1) (fun x3 s2 => kl (mX11_judge_38 a1) (fun J38 => if x3 = 0 then (J38 (-1 : Int32) s2) else (kl (gI s2 45 5) (fun x33 => if 0 ≤ x33 then (cl2 (mX11_wrongRow a1 s2) (fun x35 s34 => J38 x35 s34)) else (J38 (-3 : Int32) s2))))))
def mX11_drawBelow (a1 : Int32) (s0 : St) : Option (Int32 × St) := kl (gI s0 45 37) (fun x1 => kl (pI s0 45 37 ((x1 * (1103515245 : Int32)) + (12345 : Int32))) (fun s2 => kl (gI s2 45 37) (fun x3 => dvI a1 (some ((((x3 &&& (2147483647 : Int32)) / (65536 : Int32)) - ((x3 &&& (2147483647 : Int32)) / (65536 : Int32)) / a1 * a1), s2)))))
def mX11_seeds_182 (y16 : Int32) (J74 : Int32 → Int32 → Int32 → Int32 → Int32 → St → Option (Int32 × St)) (x38 : Int32) (y29 : Int32) (y31 : Int32) (y19 : Int32) (y42 : Int32) (s43 : St) : Option (Int32 × St) := kl ((y16 + y42)) (fun x44 => J74 x38 x44 y29 y31 ((y19 + 1)) s43)
def mX11_seeds_157 (y15 : Int32) (y29 : Int32) (y31 : Int32) (y16 : Int32) (J74 : Int32 → Int32 → Int32 → Int32 → Int32 → St → Option (Int32 × St)) (y19 : Int32) (y36 : Int32) (s37 : St) : Option (Int32 × St) := kl ((y15 + y36)) (fun x38 => cl2 (mX11_farOf y29 y31 s37) (fun x40 s39 => kl (gI s39 45 4) (fun x41 => kl (mX11_seeds_182 y16 J74 x38 y29 y31 y19) (fun J182 => if x40 ≤ x41 then (J182 (0 : Int32) s39) else (J182 (1 : Int32) s39)))))
def mX11_seeds_133 (y29 : Int32) (y15 : Int32) (y16 : Int32) (J74 : Int32 → Int32 → Int32 → Int32 → Int32 → St → Option (Int32 × St)) (y19 : Int32) (y31 : Int32) (s32 : St) : Option (Int32 × St) := cl2 (mX11_farOf y29 y31 s32) (fun x34 s33 => kl (gI s33 45 3) (fun x35 => kl (mX11_seeds_157 y15 y29 y31 y16 J74 y19) (fun J157 => if x35 ≤ x34 then (J157 (0 : Int32) s33) else (J157 (1 : Int32) s33))))
def mX11_seeds_119 (y15 : Int32) (y16 : Int32) (J74 : Int32 → Int32 → Int32 → Int32 → Int32 → St → Option (Int32 × St)) (y19 : Int32) (x28 : Int32) (y18 : Int32) (y29 : Int32) (s30 : St) : Option (Int32 × St) := kl (mX11_seeds_133 y29 y15 y16 J74 y19) (fun J133 => if 0 ≤ x28 then (J133 x28 s30) else (J133 y18 s30))
def mX11_seeds_74 (J53 : Int32 → Int32 → Int32 → St → Option (Int32 × St)) (y11 : Int32) (J74 : Int32 → Int32 → Int32 → Int32 → Int32 → St → Option (Int32 × St)) (y15 : Int32) (y16 : Int32) (y17 : Int32) (y18 : Int32) (y19 : Int32) (s20 : St) : Option (Int32 × St) := if (20 : Int32) ≤ y19 then (J53 y15 y16 ((y11 + 1)) s20) else (cl2 (mX11_drawBelow (5 : Int32) s20) (fun x22 s21 => cl2 (mX11_goneTo y17 x22 s21) (fun x24 s23 => cl2 (mX11_drawBelow (5 : Int32) s23) (fun x26 s25 => cl2 (mX11_goneTo y18 x26 s25) (fun x28 s27 => kl (mX11_seeds_119 y15 y16 J74 y19 x28 y18) (fun J119 => if 0 ≤ x24 then (J119 x24 s27) else (J119 y17 s27)))))))
def mX11_seeds_53 (a1 : Int32) (a3 : Int32) (J53 : Int32 → Int32 → Int32 → St → Option (Int32 × St)) (y9 : Int32) (y10 : Int32) (y11 : Int32) (s12 : St) : Option (Int32 × St) := if a1 ≤ y11 then (if a3 = 0 then (some (y9, s12)) else (some (y10, s12))) else (kl (gI s12 45 5) (fun x13 => kl (gI s12 45 6) (fun x14 => kl (lp (fun _ _ _ _ _ _ => none) (mX11_seeds_74 J53 y11) 2000) (fun J74 => J74 y9 y10 x13 x14 (0 : Int32) s12))))
def mX11_seeds (a1 : Int32) (a2 : Int32) (a3 : Int32) (s0 : St) : Option (Int32 × St) := kl (pI s0 45 16 (0 : Int32)) (fun s1 => cl2 (mX11_in (a1.toInt64) (1 : Int64) (20 : Int64) s1) (fun x3 s2 => if x3 = 0 then (some ((-1 : Int32), s2)) else (cl2 (mX11_in (a3.toInt64) (0 : Int64) (1 : Int64) s2) (fun x5 s4 => if x5 = 0 then (some ((-1 : Int32), s4)) else (cl2 (mX11_areBoth s4) (fun x7 s6 => if x7 = 0 then (some ((-3 : Int32), s6)) else (kl (pI s6 45 37 a2) (fun s8 => kl (lp (fun _ _ _ _ => none) (mX11_seeds_53 a1 a3) 2000) (fun J53 => J53 (0 : Int32) (0 : Int32) (0 : Int32) s8)))))))))
def mX11_count (a1 : Int32) (s0 : St) : Option (Int32 × St) := kl (pI s0 45 16 (0 : Int32)) (fun s1 => if a1 = (0 : Int32) then (kl (gI s1 45 5) (fun x2 => some (x2, s1))) else (if a1 = (1 : Int32) then (kl (gI s1 45 6) (fun x3 => some (x3, s1))) else (if a1 = (2 : Int32) then (kl (gI s1 45 7) (fun x4 => some (x4, s1))) else (if a1 = (3 : Int32) then (kl (gI s1 45 8) (fun x5 => some (x5, s1))) else (if a1 = (4 : Int32) then (kl (gI s1 45 9) (fun x6 => some (x6, s1))) else (if a1 = (5 : Int32) then (kl (gI s1 45 3) (fun x7 => some (x7, s1))) else (if a1 = (6 : Int32) then (kl (gI s1 45 4) (fun x8 => some (x8, s1))) else (if a1 = (7 : Int32) then (kl (gI s1 45 2) (fun x9 => some (x9, s1))) else (if a1 = (8 : Int32) then (cl2 (mX11_openCells s1) (fun x11 s10 => cl2 (mX11_onesOf x11 s10) (fun x13 s12 => some (x13, s12)))) else (some ((-1 : Int32), s1)))))))))))
def mX11_keep_98 (a1 : Int32) (y11 : Int32) (s12 : St) : Option (Int32 × St) := stA s12 50 8 a1 y11 (fun s13 => some ((0 : Int32), s13))
def mX11_keep_81 (a1 : Int32) (a2 : Int32) (a4 : Int32) (y8 : Int32) (s9 : St) : Option (Int32 × St) := stA s9 49 8 a1 y8 (fun s10 => kl (mX11_keep_98 a1) (fun J98 => if a2 = (1 : Int32) then (J98 a4 s10) else (J98 (0 : Int32) s10)))
def mX11_keep_59 (a1 : Int32) (a2 : Int32) (a4 : Int32) (a3 : Int32) (s6 : St) : Option (Int32 × St) := stA s6 48 8 a1 a2 (fun s7 => kl (mX11_keep_81 a1 a2 a4) (fun J81 => if a2 = (1 : Int32) then (J81 a3 s7) else (J81 (0 : Int32) s7)))
def mX11_keep (a1 : Int32) (a2 : Int32) (a3 : Int32) (a4 : Int32) (s0 : St) : Option (Int32 × St) := kl (pI s0 45 16 (0 : Int32)) (fun s1 => cl2 (mX11_in (a1.toInt64) (0 : Int64) (7 : Int64) s1) (fun x3 s2 => if x3 = 0 then (some ((-1 : Int32), s2)) else (cl2 (mX11_in (a2.toInt64) (0 : Int64) (1 : Int64) s2) (fun x5 s4 => if x5 = 0 then (some ((-1 : Int32), s4)) else (kl (mX11_keep_59 a1 a2 a4 a3) (fun J59 => if a2 = (1 : Int32) then (cl2 (mX11_in (a3.toInt64) (0 : Int64) (7 : Int64) s4) (fun x15 s14 => if x15 = 0 then (some ((-1 : Int32), s14)) else (cl2 (mX11_in (a4.toInt64) (0 : Int64) (9 : Int64) s14) (fun x17 s16 => if x17 = 0 then (some ((-1 : Int32), s16)) else (J59 s16))))) else (J59 s4)))))))
def mX11_narrowed (a0 : Int32) (a1 : Int32) (s0 : St) : Option (Int64 × St) := if a1 = 0 then (some (a0.toInt8.toInt32.toInt64, s0)) else (some (a0.toInt64, s0))
def mX11_row_68 (a1 : Int32) (J68 : Int32 → St → Option (Int32 × St)) (y9 : Int32) (s10 : St) : Option (Int32 × St) := if (100 : Int32) ≤ y9 then (some ((0 : Int32), s10)) else (stL s10 53 800 (((100 : Int32) * a1) + y9) (0 : Int64) (fun s11 => J68 ((y9 + 1)) s11))
def mX11_row (a1 : Int32) (a2 : Int32) (a3 : Int32) (s0 : St) : Option (Int32 × St) := kl (pI s0 45 16 (0 : Int32)) (fun s1 => cl2 (mX11_in (a1.toInt64) (0 : Int64) (7 : Int64) s1) (fun x3 s2 => if x3 = 0 then (some ((-1 : Int32), s2)) else (cl2 (mX11_in (a2.toInt64) (0 : Int64) (2 : Int64) s2) (fun x5 s4 => if x5 = 0 then (some ((-1 : Int32), s4)) else (if a3 ≤ (100 : Int32) then (if 0 ≤ a3 then (stA s4 48 8 a1 (2 : Int32) (fun s6 => stA s6 51 8 a1 a2 (fun s7 => stA s7 52 8 a1 a3 (fun s8 => kl (lp (fun _ _ => none) (mX11_row_68 a1) 2000) (fun J68 => J68 (0 : Int32) s8))))) else (some ((-14 : Int32), s4))) else (some ((-1 : Int32), s4)))))))
def mX11_put (a1 : Int32) (a2 : Int32) (a3 : Int32) (s0 : St) : Option (Int32 × St) := kl (pI s0 45 16 (0 : Int32)) (fun s1 => cl2 (mX11_wrongRow a1 s1) (fun x3 s2 => if 0 ≤ x3 then (ldA s2 52 8 a1 (fun x4 => cl2 (mX11_in (a2.toInt64) (0 : Int64) ((x4 - (1 : Int32)).toInt64) s2) (fun x6 s5 => if x6 = 0 then (some ((-13 : Int32), s5)) else (ldA s5 51 8 a1 (fun x7 => cl2 (mX11_narrowed a3 x7 s5) (fun x9 s8 => stL s8 53 800 (((100 : Int32) * a1) + a2) x9 (fun s10 => some ((0 : Int32), s10)))))))) else (some (x3, s2))))
def mX11_element_43 (a1 : Int32) (a2 : Int32) (y3 : Int32) (s4 : St) : Option (Int64 × St) := kl (pI s4 45 16 y3) (fun s5 => kl (gI s5 45 16) (fun x6 => if x6 ≤ 0 then (ldL s5 53 800 (((100 : Int32) * a1) + a2) (fun x7 => some (x7, s5))) else (some ((0 : Int64), s5))))
def mX11_element_38 (J43 : Int32 → St → Option (Int64 × St)) (s8 : St) : Option (Int64 × St) := J43 (2 : Int32) s8
def mX11_element (a1 : Int32) (a2 : Int32) (s0 : St) : Option (Int64 × St) := cl2 (mX11_wrongRow a1 s0) (fun x2 s1 => kl (mX11_element_43 a1 a2) (fun J43 => if x2 = (-1 : Int32) then (J43 (1 : Int32) s1) else (kl (mX11_element_38 J43) (fun J38 => if x2 < 0 then (J38 s1) else (ldA s1 52 8 a1 (fun x9 => cl2 (mX11_in (a2.toInt64) (0 : Int64) ((x9 - (1 : Int32)).toInt64) s1) (fun x11 s10 => if x11 = 0 then (J38 s10) else (J43 (0 : Int32) s10))))))))
def mX11_copy_174 (a5 : Int32) (a3 : Int32) (a4 : Int32) (J174 : Int32 → St → Option (Int32 × St)) (y16 : Int32) (s17 : St) : Option (Int32 × St) := if a5 ≤ y16 then (some (a5, s17)) else (ldL s17 65 100 y16 (fun x18 => stL s17 53 800 ((((100 : Int32) * a3) + a4) + y16) x18 (fun s19 => J174 ((y16 + 1)) s19)))
def mX11_copy_137 (a5 : Int32) (a3 : Int32) (a4 : Int32) (a1 : Int32) (a2 : Int32) (J137 : Int32 → St → Option (Int32 × St)) (y14 : Int32) (s15 : St) : Option (Int32 × St) := if a5 ≤ y14 then (kl (lp (fun _ _ => none) (mX11_copy_174 a5 a3 a4) 2000) (fun J174 => J174 (0 : Int32) s15)) else (ldL s15 53 800 ((((100 : Int32) * a1) + a2) + y14) (fun x20 => stL s15 65 100 y14 x20 (fun s21 => J137 ((y14 + 1)) s21)))
def mX11_copy (a1 : Int32) (a2 : Int32) (a3 : Int32) (a4 : Int32) (a5 : Int32) (s0 : St) : Option (Int32 × St) := kl (pI s0 45 16 (0 : Int32)) (fun s1 => cl2 (mX11_in (a1.toInt64) (0 : Int64) (7 : Int64) s1) (fun x3 s2 => if x3 = 0 then (some ((-1 : Int32), s2)) else (cl2 (mX11_in (a3.toInt64) (0 : Int64) (7 : Int64) s2) (fun x5 s4 => if x5 = 0 then (some ((-1 : Int32), s4)) else (ldA s4 48 8 a1 (fun x6 => if x6 = 0 then (some ((-11 : Int32), s4)) else (ldA s4 48 8 a3 (fun x7 => if x7 = 0 then (some ((-11 : Int32), s4)) else (ldA s4 48 8 a1 (fun x8 => if x8 = (2 : Int32) then (ldA s4 48 8 a3 (fun x9 => if x9 = (2 : Int32) then (ldA s4 51 8 a1 (fun x10 => ldA s4 51 8 a3 (fun x11 => if x10 = x11 then (if a5 < 0 then (some ((-13 : Int32), s4)) else (if a2 < 0 then (some ((-13 : Int32), s4)) else (if a4 < 0 then (some ((-13 : Int32), s4)) else (ldA s4 52 8 a1 (fun x12 => if (x12 - a5) < a2 then (some ((-13 : Int32), s4)) else (ldA s4 52 8 a3 (fun x13 => if a4 ≤ (x13 - a5) then (kl (lp (fun _ _ => none) (mX11_copy_137 a5 a3 a4 a1 a2) 2000) (fun J137 => J137 (0 : Int32) s4)) else (some ((-13 : Int32), s4))))))))) else (some ((-12 : Int32), s4))))) else (some ((-12 : Int32), s4)))) else (some ((-12 : Int32), s4))))))))))))
def mX11_costOf (a0 : Int32) (a1 : Int32) (s0 : St) : Option (Int32 × St) := if a0 = (0 : Int32) then (some ((3 : Int32), s0)) else (if a0 = (1 : Int32) then (some ((1 : Int32), s0)) else (if a0 = (2 : Int32) then (some ((4 : Int32), s0)) else (if a0 = (3 : Int32) then (some ((8 : Int32), s0)) else (if a0 = (4 : Int32) then (if a1 ≤ (7 : Int32) then (some (((8 : Int32) - a1), s0)) else (some ((1 : Int32), s0))) else (if a0 = (5 : Int32) then (some ((9 : Int32), s0)) else (if a0 = (6 : Int32) then (some (((9 : Int32) + a1), s0)) else (some (((3 : Int32) + a1), s0))))))))
def mX11_cost (a1 : Int32) (s0 : St) : Option (Int32 × St) := kl (pI s0 45 16 (0 : Int32)) (fun s1 => cl2 (mX11_wrongKept a1 s1) (fun x3 s2 => if 0 ≤ x3 then (ldA s2 49 8 a1 (fun x4 => ldA s2 50 8 a1 (fun x5 => cl2 (mX11_costOf x4 x5 s2) (fun x7 s6 => some (x7, s6))))) else (cl2 (mX11_wrongKept a1 s2) (fun x9 s8 => some (x9, s8)))))
def mX11_toss_55 (x5 : Int32) (s6 : St) : Option (Int32 × St) := some (((100 : Int32) + x5), s6)
def mX11_toss (a1 : Int32) (s0 : St) : Option (Int32 × St) := kl (pI s0 45 16 (0 : Int32)) (fun s1 => cl2 (mX11_wrongKept a1 s1) (fun x3 s2 => if 0 ≤ x3 then (ldA s2 49 8 a1 (fun x4 => ldA s2 50 8 a1 (fun x5 => if x4 = (1 : Int32) then (some ((-15 : Int32), s2)) else (if x5 = 0 then (some ((-15 : Int32), s2)) else (kl (mX11_toss_55 x5) (fun J55 => if x4 = (2 : Int32) then (J55 s2) else (if x4 = (3 : Int32) then (J55 s2) else (if x4 = (4 : Int32) then (cl2 (mX11_costOf x4 x5 s2) (fun x8 s7 => some (((200 : Int32) + x8), s7))) else (some (x5, s2)))))))))) else (cl2 (mX11_wrongKept a1 s2) (fun x10 s9 => some (x10, s9)))))
end
section
theorem pnRJ13 : plainName RJ13 = true := by decide +kernel
theorem pnRJ7 : plainName RJ7 = true := by decide +kernel
theorem pnRX0 : plainName RX0 = true := by decide +kernel
theorem pnRX1 : plainName RX1 = true := by decide +kernel
theorem pnRX10 : plainName RX10 = true := by decide +kernel
theorem pnRX11 : plainName RX11 = true := by decide +kernel
theorem pnRX2 : plainName RX2 = true := by decide +kernel
theorem pnRX3 : plainName RX3 = true := by decide +kernel
theorem pnRX4 : plainName RX4 = true := by decide +kernel
theorem pnRX5 : plainName RX5 = true := by decide +kernel
theorem pnRX6 : plainName RX6 = true := by decide +kernel
theorem pnRX7 : plainName RX7 = true := by decide +kernel
theorem pnRX8 : plainName RX8 = true := by decide +kernel
theorem pnRX9 : plainName RX9 = true := by decide +kernel
theorem hdX10_isCell : yX10_isCell.cls ≠ "java/lang/invoke/MethodHandle" ∧ yX10_isCell.cls ≠ "java/lang/invoke/VarHandle" ∧ (parseMethodDescriptor yX10_isCell.desc).map (fun d => d.parameters.length) = some 1 := ⟨by decide +kernel, by decide +kernel, by decide +kernel⟩
theorem hdX2_heightOf : yX2_heightOf.cls ≠ "java/lang/invoke/MethodHandle" ∧ yX2_heightOf.cls ≠ "java/lang/invoke/VarHandle" ∧ (parseMethodDescriptor yX2_heightOf.desc).map (fun d => d.parameters.length) = some 2 := ⟨by decide +kernel, by decide +kernel, by decide +kernel⟩
theorem hdX3_heightAt : yX3_heightAt.cls = RX3 ∧ yX3_heightAt.cls ≠ "java/lang/invoke/MethodHandle" ∧ yX3_heightAt.cls ≠ "java/lang/invoke/VarHandle" ∧ (parseMethodDescriptor yX3_heightAt.desc).map (fun d => d.parameters.length) = some 1 := ⟨rfl, by decide +kernel, by decide +kernel, by decide +kernel⟩
theorem hdX7_apart : yX7_apart.cls ≠ "java/lang/invoke/MethodHandle" ∧ yX7_apart.cls ≠ "java/lang/invoke/VarHandle" ∧ (parseMethodDescriptor yX7_apart.desc).map (fun d => d.parameters.length) = some 2 := ⟨by decide +kernel, by decide +kernel, by decide +kernel⟩
theorem hdX0_bound : yX0_bound.cls = RX0 ∧ yX0_bound.cls ≠ "java/lang/invoke/MethodHandle" ∧ yX0_bound.cls ≠ "java/lang/invoke/VarHandle" ∧ (parseMethodDescriptor yX0_bound.desc).map (fun d => d.parameters.length) = some 2 := ⟨rfl, by decide +kernel, by decide +kernel, by decide +kernel⟩
theorem hdX2_isOpen : yX2_isOpen.cls ≠ "java/lang/invoke/MethodHandle" ∧ yX2_isOpen.cls ≠ "java/lang/invoke/VarHandle" ∧ (parseMethodDescriptor yX2_isOpen.desc).map (fun d => d.parameters.length) = some 3 := ⟨by decide +kernel, by decide +kernel, by decide +kernel⟩
theorem hdX3_isOpen : yX3_isOpen.cls = RX3 ∧ yX3_isOpen.cls ≠ "java/lang/invoke/MethodHandle" ∧ yX3_isOpen.cls ≠ "java/lang/invoke/VarHandle" ∧ (parseMethodDescriptor yX3_isOpen.desc).map (fun d => d.parameters.length) = some 1 := ⟨rfl, by decide +kernel, by decide +kernel, by decide +kernel⟩
theorem hdX7_bit : yX7_bit.cls ≠ "java/lang/invoke/MethodHandle" ∧ yX7_bit.cls ≠ "java/lang/invoke/VarHandle" ∧ (parseMethodDescriptor yX7_bit.desc).map (fun d => d.parameters.length) = some 1 := ⟨by decide +kernel, by decide +kernel, by decide +kernel⟩
theorem hdX3_openCells : yX3_openCells.cls = RX3 ∧ yX3_openCells.cls ≠ "java/lang/invoke/MethodHandle" ∧ yX3_openCells.cls ≠ "java/lang/invoke/VarHandle" ∧ (parseMethodDescriptor yX3_openCells.desc).map (fun d => d.parameters.length) = some 0 := ⟨rfl, by decide +kernel, by decide +kernel, by decide +kernel⟩
theorem hdX7_has : yX7_has.cls ≠ "java/lang/invoke/MethodHandle" ∧ yX7_has.cls ≠ "java/lang/invoke/VarHandle" ∧ (parseMethodDescriptor yX7_has.desc).map (fun d => d.parameters.length) = some 2 := ⟨by decide +kernel, by decide +kernel, by decide +kernel⟩
theorem hdX0_admit : yX0_admit.cls = RX0 ∧ yX0_admit.cls ≠ "java/lang/invoke/MethodHandle" ∧ yX0_admit.cls ≠ "java/lang/invoke/VarHandle" ∧ (parseMethodDescriptor yX0_admit.desc).map (fun d => d.parameters.length) = some 1 := ⟨rfl, by decide +kernel, by decide +kernel, by decide +kernel⟩
theorem hdX0_lay : yX0_lay.cls = RX0 ∧ yX0_lay.cls ≠ "java/lang/invoke/MethodHandle" ∧ yX0_lay.cls ≠ "java/lang/invoke/VarHandle" ∧ (parseMethodDescriptor yX0_lay.desc).map (fun d => d.parameters.length) = some 1 := ⟨rfl, by decide +kernel, by decide +kernel, by decide +kernel⟩
theorem hdX0_nearOf : yX0_nearOf.cls = RX0 ∧ yX0_nearOf.cls ≠ "java/lang/invoke/MethodHandle" ∧ yX0_nearOf.cls ≠ "java/lang/invoke/VarHandle" ∧ (parseMethodDescriptor yX0_nearOf.desc).map (fun d => d.parameters.length) = some 1 := ⟨rfl, by decide +kernel, by decide +kernel, by decide +kernel⟩
theorem hdX0_isPair : yX0_isPair.cls = RX0 ∧ yX0_isPair.cls ≠ "java/lang/invoke/MethodHandle" ∧ yX0_isPair.cls ≠ "java/lang/invoke/VarHandle" ∧ (parseMethodDescriptor yX0_isPair.desc).map (fun d => d.parameters.length) = some 2 := ⟨rfl, by decide +kernel, by decide +kernel, by decide +kernel⟩
theorem hdJ13_bitCount_95d88 : yJ13_bitCount_95d88.cls ≠ "java/lang/invoke/MethodHandle" ∧ yJ13_bitCount_95d88.cls ≠ "java/lang/invoke/VarHandle" ∧ (parseMethodDescriptor yJ13_bitCount_95d88.desc).map (fun d => d.parameters.length) = some 1 := ⟨by decide +kernel, by decide +kernel, by decide +kernel⟩
theorem hdX0_bitsOf : yX0_bitsOf.cls ≠ "java/lang/invoke/MethodHandle" ∧ yX0_bitsOf.cls ≠ "java/lang/invoke/VarHandle" ∧ (parseMethodDescriptor yX0_bitsOf.desc).map (fun d => d.parameters.length) = some 1 := ⟨by decide +kernel, by decide +kernel, by decide +kernel⟩
theorem hdX0_pairsInAll : yX0_pairsInAll.cls = RX0 ∧ yX0_pairsInAll.cls ≠ "java/lang/invoke/MethodHandle" ∧ yX0_pairsInAll.cls ≠ "java/lang/invoke/VarHandle" ∧ (parseMethodDescriptor yX0_pairsInAll.desc).map (fun d => d.parameters.length) = some 0 := ⟨rfl, by decide +kernel, by decide +kernel, by decide +kernel⟩
theorem hdX0_pairAt : yX0_pairAt.cls = RX0 ∧ yX0_pairAt.cls ≠ "java/lang/invoke/MethodHandle" ∧ yX0_pairAt.cls ≠ "java/lang/invoke/VarHandle" ∧ (parseMethodDescriptor yX0_pairAt.desc).map (fun d => d.parameters.length) = some 1 := ⟨rfl, by decide +kernel, by decide +kernel, by decide +kernel⟩
theorem hdX0_farsInAll : yX0_farsInAll.cls = RX0 ∧ yX0_farsInAll.cls ≠ "java/lang/invoke/MethodHandle" ∧ yX0_farsInAll.cls ≠ "java/lang/invoke/VarHandle" ∧ (parseMethodDescriptor yX0_farsInAll.desc).map (fun d => d.parameters.length) = some 0 := ⟨rfl, by decide +kernel, by decide +kernel, by decide +kernel⟩
theorem hdJ7_fill_53178 : yJ7_fill_53178.cls ≠ "java/lang/invoke/MethodHandle" ∧ yJ7_fill_53178.cls ≠ "java/lang/invoke/VarHandle" ∧ (parseMethodDescriptor yJ7_fill_53178.desc).map (fun d => d.parameters.length) = some 2 := ⟨by decide +kernel, by decide +kernel, by decide +kernel⟩
theorem hdJ7_fill_d0a16 : yJ7_fill_d0a16.cls ≠ "java/lang/invoke/MethodHandle" ∧ yJ7_fill_d0a16.cls ≠ "java/lang/invoke/VarHandle" ∧ (parseMethodDescriptor yJ7_fill_d0a16.desc).map (fun d => d.parameters.length) = some 2 := ⟨by decide +kernel, by decide +kernel, by decide +kernel⟩
theorem hdX0_start : yX0_start.cls = RX0 ∧ yX0_start.cls ≠ "java/lang/invoke/MethodHandle" ∧ yX0_start.cls ≠ "java/lang/invoke/VarHandle" ∧ (parseMethodDescriptor yX0_start.desc).map (fun d => d.parameters.length) = some 2 := ⟨rfl, by decide +kernel, by decide +kernel, by decide +kernel⟩
theorem hdX7_cellTo : yX7_cellTo.cls ≠ "java/lang/invoke/MethodHandle" ∧ yX7_cellTo.cls ≠ "java/lang/invoke/VarHandle" ∧ (parseMethodDescriptor yX7_cellTo.desc).map (fun d => d.parameters.length) = some 2 := ⟨by decide +kernel, by decide +kernel, by decide +kernel⟩
theorem hdX0_comeAround : yX0_comeAround.cls = RX0 ∧ yX0_comeAround.cls ≠ "java/lang/invoke/MethodHandle" ∧ yX0_comeAround.cls ≠ "java/lang/invoke/VarHandle" ∧ (parseMethodDescriptor yX0_comeAround.desc).map (fun d => d.parameters.length) = some 1 := ⟨rfl, by decide +kernel, by decide +kernel, by decide +kernel⟩
theorem hdX7_spread : yX7_spread.cls ≠ "java/lang/invoke/MethodHandle" ∧ yX7_spread.cls ≠ "java/lang/invoke/VarHandle" ∧ (parseMethodDescriptor yX7_spread.desc).map (fun d => d.parameters.length) = some 1 := ⟨by decide +kernel, by decide +kernel, by decide +kernel⟩
theorem hdX0_mark : yX0_mark.cls = RX0 ∧ yX0_mark.cls ≠ "java/lang/invoke/MethodHandle" ∧ yX0_mark.cls ≠ "java/lang/invoke/VarHandle" ∧ (parseMethodDescriptor yX0_mark.desc).map (fun d => d.parameters.length) = some 3 := ⟨rfl, by decide +kernel, by decide +kernel, by decide +kernel⟩
theorem hdX0_spreadOn : yX0_spreadOn.cls = RX0 ∧ yX0_spreadOn.cls ≠ "java/lang/invoke/MethodHandle" ∧ yX0_spreadOn.cls ≠ "java/lang/invoke/VarHandle" ∧ (parseMethodDescriptor yX0_spreadOn.desc).map (fun d => d.parameters.length) = some 1 := ⟨rfl, by decide +kernel, by decide +kernel, by decide +kernel⟩
theorem hdX0_daysBetween : yX0_daysBetween.cls = RX0 ∧ yX0_daysBetween.cls ≠ "java/lang/invoke/MethodHandle" ∧ yX0_daysBetween.cls ≠ "java/lang/invoke/VarHandle" ∧ (parseMethodDescriptor yX0_daysBetween.desc).map (fun d => d.parameters.length) = some 4 := ⟨rfl, by decide +kernel, by decide +kernel, by decide +kernel⟩
theorem hdX0_daysLeft : yX0_daysLeft.cls = RX0 ∧ yX0_daysLeft.cls ≠ "java/lang/invoke/MethodHandle" ∧ yX0_daysLeft.cls ≠ "java/lang/invoke/VarHandle" ∧ (parseMethodDescriptor yX0_daysLeft.desc).map (fun d => d.parameters.length) = some 2 := ⟨rfl, by decide +kernel, by decide +kernel, by decide +kernel⟩
theorem hdX0_nextPair : yX0_nextPair.cls = RX0 ∧ yX0_nextPair.cls ≠ "java/lang/invoke/MethodHandle" ∧ yX0_nextPair.cls ≠ "java/lang/invoke/VarHandle" ∧ (parseMethodDescriptor yX0_nextPair.desc).map (fun d => d.parameters.length) = some 2 := ⟨rfl, by decide +kernel, by decide +kernel, by decide +kernel⟩
theorem hdX0_pairOnWay : yX0_pairOnWay.cls = RX0 ∧ yX0_pairOnWay.cls ≠ "java/lang/invoke/MethodHandle" ∧ yX0_pairOnWay.cls ≠ "java/lang/invoke/VarHandle" ∧ (parseMethodDescriptor yX0_pairOnWay.desc).map (fun d => d.parameters.length) = some 3 := ⟨rfl, by decide +kernel, by decide +kernel, by decide +kernel⟩
theorem hdX0_pairsWithin : yX0_pairsWithin.cls = RX0 ∧ yX0_pairsWithin.cls ≠ "java/lang/invoke/MethodHandle" ∧ yX0_pairsWithin.cls ≠ "java/lang/invoke/VarHandle" ∧ (parseMethodDescriptor yX0_pairsWithin.desc).map (fun d => d.parameters.length) = some 3 := ⟨rfl, by decide +kernel, by decide +kernel, by decide +kernel⟩
theorem hdX0_walkHim : yX0_walkHim.cls = RX0 ∧ yX0_walkHim.cls ≠ "java/lang/invoke/MethodHandle" ∧ yX0_walkHim.cls ≠ "java/lang/invoke/VarHandle" ∧ (parseMethodDescriptor yX0_walkHim.desc).map (fun d => d.parameters.length) = some 0 := ⟨rfl, by decide +kernel, by decide +kernel, by decide +kernel⟩
theorem hdX0_walkHer : yX0_walkHer.cls = RX0 ∧ yX0_walkHer.cls ≠ "java/lang/invoke/MethodHandle" ∧ yX0_walkHer.cls ≠ "java/lang/invoke/VarHandle" ∧ (parseMethodDescriptor yX0_walkHer.desc).map (fun d => d.parameters.length) = some 0 := ⟨rfl, by decide +kernel, by decide +kernel, by decide +kernel⟩
theorem hdX0_walk : yX0_walk.cls = RX0 ∧ yX0_walk.cls ≠ "java/lang/invoke/MethodHandle" ∧ yX0_walk.cls ≠ "java/lang/invoke/VarHandle" ∧ (parseMethodDescriptor yX0_walk.desc).map (fun d => d.parameters.length) = some 3 := ⟨rfl, by decide +kernel, by decide +kernel, by decide +kernel⟩
theorem hdX0_walksTo : yX0_walksTo.cls = RX0 ∧ yX0_walksTo.cls ≠ "java/lang/invoke/MethodHandle" ∧ yX0_walksTo.cls ≠ "java/lang/invoke/VarHandle" ∧ (parseMethodDescriptor yX0_walksTo.desc).map (fun d => d.parameters.length) = some 2 := ⟨rfl, by decide +kernel, by decide +kernel, by decide +kernel⟩
theorem hdX0_walksInAll : yX0_walksInAll.cls = RX0 ∧ yX0_walksInAll.cls ≠ "java/lang/invoke/MethodHandle" ∧ yX0_walksInAll.cls ≠ "java/lang/invoke/VarHandle" ∧ (parseMethodDescriptor yX0_walksInAll.desc).map (fun d => d.parameters.length) = some 0 := ⟨rfl, by decide +kernel, by decide +kernel, by decide +kernel⟩
theorem hdX1_commonDivisor : yX1_commonDivisor.cls ≠ "java/lang/invoke/MethodHandle" ∧ yX1_commonDivisor.cls ≠ "java/lang/invoke/VarHandle" ∧ (parseMethodDescriptor yX1_commonDivisor.desc).map (fun d => d.parameters.length) = some 2 := ⟨by decide +kernel, by decide +kernel, by decide +kernel⟩
theorem hdX1_partOf : yX1_partOf.cls ≠ "java/lang/invoke/MethodHandle" ∧ yX1_partOf.cls ≠ "java/lang/invoke/VarHandle" ∧ (parseMethodDescriptor yX1_partOf.desc).map (fun d => d.parameters.length) = some 3 := ⟨by decide +kernel, by decide +kernel, by decide +kernel⟩
theorem hdX2_isKind : yX2_isKind.cls ≠ "java/lang/invoke/MethodHandle" ∧ yX2_isKind.cls ≠ "java/lang/invoke/VarHandle" ∧ (parseMethodDescriptor yX2_isKind.desc).map (fun d => d.parameters.length) = some 1 := ⟨by decide +kernel, by decide +kernel, by decide +kernel⟩
theorem hdX2_chanceOf : yX2_chanceOf.cls ≠ "java/lang/invoke/MethodHandle" ∧ yX2_chanceOf.cls ≠ "java/lang/invoke/VarHandle" ∧ (parseMethodDescriptor yX2_chanceOf.desc).map (fun d => d.parameters.length) = some 2 := ⟨by decide +kernel, by decide +kernel, by decide +kernel⟩
theorem hdX2_costOf : yX2_costOf.cls ≠ "java/lang/invoke/MethodHandle" ∧ yX2_costOf.cls ≠ "java/lang/invoke/VarHandle" ∧ (parseMethodDescriptor yX2_costOf.desc).map (fun d => d.parameters.length) = some 2 := ⟨by decide +kernel, by decide +kernel, by decide +kernel⟩
theorem hdX3_becomes : yX3_becomes.cls = RX3 ∧ yX3_becomes.cls ≠ "java/lang/invoke/MethodHandle" ∧ yX3_becomes.cls ≠ "java/lang/invoke/VarHandle" ∧ (parseMethodDescriptor yX3_becomes.desc).map (fun d => d.parameters.length) = some 1 := ⟨rfl, by decide +kernel, by decide +kernel, by decide +kernel⟩
theorem hdX3_kindAt : yX3_kindAt.cls = RX3 ∧ yX3_kindAt.cls ≠ "java/lang/invoke/MethodHandle" ∧ yX3_kindAt.cls ≠ "java/lang/invoke/VarHandle" ∧ (parseMethodDescriptor yX3_kindAt.desc).map (fun d => d.parameters.length) = some 1 := ⟨rfl, by decide +kernel, by decide +kernel, by decide +kernel⟩
theorem hdX3_figureAt : yX3_figureAt.cls = RX3 ∧ yX3_figureAt.cls ≠ "java/lang/invoke/MethodHandle" ∧ yX3_figureAt.cls ≠ "java/lang/invoke/VarHandle" ∧ (parseMethodDescriptor yX3_figureAt.desc).map (fun d => d.parameters.length) = some 1 := ⟨rfl, by decide +kernel, by decide +kernel, by decide +kernel⟩
theorem hdX3_chanceAt : yX3_chanceAt.cls = RX3 ∧ yX3_chanceAt.cls ≠ "java/lang/invoke/MethodHandle" ∧ yX3_chanceAt.cls ≠ "java/lang/invoke/VarHandle" ∧ (parseMethodDescriptor yX3_chanceAt.desc).map (fun d => d.parameters.length) = some 1 := ⟨rfl, by decide +kernel, by decide +kernel, by decide +kernel⟩
theorem hdX3_sureCells : yX3_sureCells.cls = RX3 ∧ yX3_sureCells.cls ≠ "java/lang/invoke/MethodHandle" ∧ yX3_sureCells.cls ≠ "java/lang/invoke/VarHandle" ∧ (parseMethodDescriptor yX3_sureCells.desc).map (fun d => d.parameters.length) = some 0 := ⟨rfl, by decide +kernel, by decide +kernel, by decide +kernel⟩
theorem hdX3_unsureCells : yX3_unsureCells.cls = RX3 ∧ yX3_unsureCells.cls ≠ "java/lang/invoke/MethodHandle" ∧ yX3_unsureCells.cls ≠ "java/lang/invoke/VarHandle" ∧ (parseMethodDescriptor yX3_unsureCells.desc).map (fun d => d.parameters.length) = some 0 := ⟨rfl, by decide +kernel, by decide +kernel, by decide +kernel⟩
theorem hdX3_bothStand : yX3_bothStand.cls = RX3 ∧ yX3_bothStand.cls ≠ "java/lang/invoke/MethodHandle" ∧ yX3_bothStand.cls ≠ "java/lang/invoke/VarHandle" ∧ (parseMethodDescriptor yX3_bothStand.desc).map (fun d => d.parameters.length) = some 0 := ⟨rfl, by decide +kernel, by decide +kernel, by decide +kernel⟩
theorem hdX3_farBetween : yX3_farBetween.cls = RX3 ∧ yX3_farBetween.cls ≠ "java/lang/invoke/MethodHandle" ∧ yX3_farBetween.cls ≠ "java/lang/invoke/VarHandle" ∧ (parseMethodDescriptor yX3_farBetween.desc).map (fun d => d.parameters.length) = some 2 := ⟨rfl, by decide +kernel, by decide +kernel, by decide +kernel⟩
theorem hdX3_layAt : yX3_layAt.cls = RX3 ∧ yX3_layAt.cls ≠ "java/lang/invoke/MethodHandle" ∧ yX3_layAt.cls ≠ "java/lang/invoke/VarHandle" ∧ (parseMethodDescriptor yX3_layAt.desc).map (fun d => d.parameters.length) = some 3 := ⟨rfl, by decide +kernel, by decide +kernel, by decide +kernel⟩
theorem hdX3_place : yX3_place.cls = RX3 ∧ yX3_place.cls ≠ "java/lang/invoke/MethodHandle" ∧ yX3_place.cls ≠ "java/lang/invoke/VarHandle" ∧ (parseMethodDescriptor yX3_place.desc).map (fun d => d.parameters.length) = some 2 := ⟨rfl, by decide +kernel, by decide +kernel, by decide +kernel⟩
theorem hdX3_cellBy : yX3_cellBy.cls = RX3 ∧ yX3_cellBy.cls ≠ "java/lang/invoke/MethodHandle" ∧ yX3_cellBy.cls ≠ "java/lang/invoke/VarHandle" ∧ (parseMethodDescriptor yX3_cellBy.desc).map (fun d => d.parameters.length) = some 2 := ⟨rfl, by decide +kernel, by decide +kernel, by decide +kernel⟩
theorem hdX3_cellByOrStay : yX3_cellByOrStay.cls = RX3 ∧ yX3_cellByOrStay.cls ≠ "java/lang/invoke/MethodHandle" ∧ yX3_cellByOrStay.cls ≠ "java/lang/invoke/VarHandle" ∧ (parseMethodDescriptor yX3_cellByOrStay.desc).map (fun d => d.parameters.length) = some 2 := ⟨rfl, by decide +kernel, by decide +kernel, by decide +kernel⟩
theorem hdX3_endDay : yX3_endDay.cls = RX3 ∧ yX3_endDay.cls ≠ "java/lang/invoke/MethodHandle" ∧ yX3_endDay.cls ≠ "java/lang/invoke/VarHandle" ∧ (parseMethodDescriptor yX3_endDay.desc).map (fun d => d.parameters.length) = some 2 := ⟨rfl, by decide +kernel, by decide +kernel, by decide +kernel⟩
theorem hdX3_goDay : yX3_goDay.cls = RX3 ∧ yX3_goDay.cls ≠ "java/lang/invoke/MethodHandle" ∧ yX3_goDay.cls ≠ "java/lang/invoke/VarHandle" ∧ (parseMethodDescriptor yX3_goDay.desc).map (fun d => d.parameters.length) = some 2 := ⟨rfl, by decide +kernel, by decide +kernel, by decide +kernel⟩
theorem hdX4_lay : yX4_lay.cls = RX4 ∧ yX4_lay.cls ≠ "java/lang/invoke/MethodHandle" ∧ yX4_lay.cls ≠ "java/lang/invoke/VarHandle" ∧ (parseMethodDescriptor yX4_lay.desc).map (fun d => d.parameters.length) = some 1 := ⟨rfl, by decide +kernel, by decide +kernel, by decide +kernel⟩
theorem hdX10_isWay : yX10_isWay.cls ≠ "java/lang/invoke/MethodHandle" ∧ yX10_isWay.cls ≠ "java/lang/invoke/VarHandle" ∧ (parseMethodDescriptor yX10_isWay.desc).map (fun d => d.parameters.length) = some 1 := ⟨by decide +kernel, by decide +kernel, by decide +kernel⟩
theorem hdX4_farOf : yX4_farOf.cls = RX4 ∧ yX4_farOf.cls ≠ "java/lang/invoke/MethodHandle" ∧ yX4_farOf.cls ≠ "java/lang/invoke/VarHandle" ∧ (parseMethodDescriptor yX4_farOf.desc).map (fun d => d.parameters.length) = some 2 := ⟨rfl, by decide +kernel, by decide +kernel, by decide +kernel⟩
theorem hdX4_isHeld : yX4_isHeld.cls = RX4 ∧ yX4_isHeld.cls ≠ "java/lang/invoke/MethodHandle" ∧ yX4_isHeld.cls ≠ "java/lang/invoke/VarHandle" ∧ (parseMethodDescriptor yX4_isHeld.desc).map (fun d => d.parameters.length) = some 2 := ⟨rfl, by decide +kernel, by decide +kernel, by decide +kernel⟩
theorem hdX4_firstHeld : yX4_firstHeld.cls = RX4 ∧ yX4_firstHeld.cls ≠ "java/lang/invoke/MethodHandle" ∧ yX4_firstHeld.cls ≠ "java/lang/invoke/VarHandle" ∧ (parseMethodDescriptor yX4_firstHeld.desc).map (fun d => d.parameters.length) = some 0 := ⟨rfl, by decide +kernel, by decide +kernel, by decide +kernel⟩
theorem hdX4_worstOf : yX4_worstOf.cls = RX4 ∧ yX4_worstOf.cls ≠ "java/lang/invoke/MethodHandle" ∧ yX4_worstOf.cls ≠ "java/lang/invoke/VarHandle" ∧ (parseMethodDescriptor yX4_worstOf.desc).map (fun d => d.parameters.length) = some 1 := ⟨rfl, by decide +kernel, by decide +kernel, by decide +kernel⟩
theorem hdX4_leastSure : yX4_leastSure.cls = RX4 ∧ yX4_leastSure.cls ≠ "java/lang/invoke/MethodHandle" ∧ yX4_leastSure.cls ≠ "java/lang/invoke/VarHandle" ∧ (parseMethodDescriptor yX4_leastSure.desc).map (fun d => d.parameters.length) = some 0 := ⟨rfl, by decide +kernel, by decide +kernel, by decide +kernel⟩
theorem hdX5_takeGround : yX5_takeGround.cls = RX5 ∧ yX5_takeGround.cls ≠ "java/lang/invoke/MethodHandle" ∧ yX5_takeGround.cls ≠ "java/lang/invoke/VarHandle" ∧ (parseMethodDescriptor yX5_takeGround.desc).map (fun d => d.parameters.length) = some 2 := ⟨rfl, by decide +kernel, by decide +kernel, by decide +kernel⟩
theorem hdX5_takeRow : yX5_takeRow.cls = RX5 ∧ yX5_takeRow.cls ≠ "java/lang/invoke/MethodHandle" ∧ yX5_takeRow.cls ≠ "java/lang/invoke/VarHandle" ∧ (parseMethodDescriptor yX5_takeRow.desc).map (fun d => d.parameters.length) = some 2 := ⟨rfl, by decide +kernel, by decide +kernel, by decide +kernel⟩
theorem hdX5_hasPlace : yX5_hasPlace.cls = RX5 ∧ yX5_hasPlace.cls ≠ "java/lang/invoke/MethodHandle" ∧ yX5_hasPlace.cls ≠ "java/lang/invoke/VarHandle" ∧ (parseMethodDescriptor yX5_hasPlace.desc).map (fun d => d.parameters.length) = some 1 := ⟨rfl, by decide +kernel, by decide +kernel, by decide +kernel⟩
theorem hdX5_hasPlaces : yX5_hasPlaces.cls = RX5 ∧ yX5_hasPlaces.cls ≠ "java/lang/invoke/MethodHandle" ∧ yX5_hasPlaces.cls ≠ "java/lang/invoke/VarHandle" ∧ (parseMethodDescriptor yX5_hasPlaces.desc).map (fun d => d.parameters.length) = some 2 := ⟨rfl, by decide +kernel, by decide +kernel, by decide +kernel⟩
theorem hdX5_numberAt : yX5_numberAt.cls = RX5 ∧ yX5_numberAt.cls ≠ "java/lang/invoke/MethodHandle" ∧ yX5_numberAt.cls ≠ "java/lang/invoke/VarHandle" ∧ (parseMethodDescriptor yX5_numberAt.desc).map (fun d => d.parameters.length) = some 1 := ⟨rfl, by decide +kernel, by decide +kernel, by decide +kernel⟩
theorem hdX5_write : yX5_write.cls = RX5 ∧ yX5_write.cls ≠ "java/lang/invoke/MethodHandle" ∧ yX5_write.cls ≠ "java/lang/invoke/VarHandle" ∧ (parseMethodDescriptor yX5_write.desc).map (fun d => d.parameters.length) = some 2 := ⟨rfl, by decide +kernel, by decide +kernel, by decide +kernel⟩
theorem hdX5_leastNumber : yX5_leastNumber.cls = RX5 ∧ yX5_leastNumber.cls ≠ "java/lang/invoke/MethodHandle" ∧ yX5_leastNumber.cls ≠ "java/lang/invoke/VarHandle" ∧ (parseMethodDescriptor yX5_leastNumber.desc).map (fun d => d.parameters.length) = some 0 := ⟨rfl, by decide +kernel, by decide +kernel, by decide +kernel⟩
theorem hdX6_passableOf : yX6_passableOf.cls ≠ "java/lang/invoke/MethodHandle" ∧ yX6_passableOf.cls ≠ "java/lang/invoke/VarHandle" ∧ (parseMethodDescriptor yX6_passableOf.desc).map (fun d => d.parameters.length) = some 2 := ⟨by decide +kernel, by decide +kernel, by decide +kernel⟩
theorem hdX7_stepsBetween : yX7_stepsBetween.cls ≠ "java/lang/invoke/MethodHandle" ∧ yX7_stepsBetween.cls ≠ "java/lang/invoke/VarHandle" ∧ (parseMethodDescriptor yX7_stepsBetween.desc).map (fun d => d.parameters.length) = some 3 := ⟨by decide +kernel, by decide +kernel, by decide +kernel⟩
theorem hdX6_weightOf : yX6_weightOf.cls ≠ "java/lang/invoke/MethodHandle" ∧ yX6_weightOf.cls ≠ "java/lang/invoke/VarHandle" ∧ (parseMethodDescriptor yX6_weightOf.desc).map (fun d => d.parameters.length) = some 3 := ⟨by decide +kernel, by decide +kernel, by decide +kernel⟩
theorem hdX6_likely : yX6_likely.cls ≠ "java/lang/invoke/MethodHandle" ∧ yX6_likely.cls ≠ "java/lang/invoke/VarHandle" ∧ (parseMethodDescriptor yX6_likely.desc).map (fun d => d.parameters.length) = some 3 := ⟨by decide +kernel, by decide +kernel, by decide +kernel⟩
theorem hdX7_leastOf : yX7_leastOf.cls ≠ "java/lang/invoke/MethodHandle" ∧ yX7_leastOf.cls ≠ "java/lang/invoke/VarHandle" ∧ (parseMethodDescriptor yX7_leastOf.desc).map (fun d => d.parameters.length) = some 1 := ⟨by decide +kernel, by decide +kernel, by decide +kernel⟩
theorem hdX7_cellsWithin : yX7_cellsWithin.cls ≠ "java/lang/invoke/MethodHandle" ∧ yX7_cellsWithin.cls ≠ "java/lang/invoke/VarHandle" ∧ (parseMethodDescriptor yX7_cellsWithin.desc).map (fun d => d.parameters.length) = some 3 := ⟨by decide +kernel, by decide +kernel, by decide +kernel⟩
theorem hdX7_islandOf : yX7_islandOf.cls ≠ "java/lang/invoke/MethodHandle" ∧ yX7_islandOf.cls ≠ "java/lang/invoke/VarHandle" ∧ (parseMethodDescriptor yX7_islandOf.desc).map (fun d => d.parameters.length) = some 2 := ⟨by decide +kernel, by decide +kernel, by decide +kernel⟩
theorem hdX7_islandsOf : yX7_islandsOf.cls ≠ "java/lang/invoke/MethodHandle" ∧ yX7_islandsOf.cls ≠ "java/lang/invoke/VarHandle" ∧ (parseMethodDescriptor yX7_islandsOf.desc).map (fun d => d.parameters.length) = some 1 := ⟨by decide +kernel, by decide +kernel, by decide +kernel⟩
theorem hdX7_largestIsland : yX7_largestIsland.cls ≠ "java/lang/invoke/MethodHandle" ∧ yX7_largestIsland.cls ≠ "java/lang/invoke/VarHandle" ∧ (parseMethodDescriptor yX7_largestIsland.desc).map (fun d => d.parameters.length) = some 1 := ⟨by decide +kernel, by decide +kernel, by decide +kernel⟩
theorem hdX7_greatestSteps : yX7_greatestSteps.cls ≠ "java/lang/invoke/MethodHandle" ∧ yX7_greatestSteps.cls ≠ "java/lang/invoke/VarHandle" ∧ (parseMethodDescriptor yX7_greatestSteps.desc).map (fun d => d.parameters.length) = some 2 := ⟨by decide +kernel, by decide +kernel, by decide +kernel⟩
theorem hdX7_middleOf : yX7_middleOf.cls ≠ "java/lang/invoke/MethodHandle" ∧ yX7_middleOf.cls ≠ "java/lang/invoke/VarHandle" ∧ (parseMethodDescriptor yX7_middleOf.desc).map (fun d => d.parameters.length) = some 1 := ⟨by decide +kernel, by decide +kernel, by decide +kernel⟩
theorem hdX8_digitsBehind : yX8_digitsBehind.cls ≠ "java/lang/invoke/MethodHandle" ∧ yX8_digitsBehind.cls ≠ "java/lang/invoke/VarHandle" ∧ (parseMethodDescriptor yX8_digitsBehind.desc).map (fun d => d.parameters.length) = some 1 := ⟨by decide +kernel, by decide +kernel, by decide +kernel⟩
theorem hdX8_firstWrongByte : yX8_firstWrongByte.cls ≠ "java/lang/invoke/MethodHandle" ∧ yX8_firstWrongByte.cls ≠ "java/lang/invoke/VarHandle" ∧ (parseMethodDescriptor yX8_firstWrongByte.desc).map (fun d => d.parameters.length) = some 1 := ⟨by decide +kernel, by decide +kernel, by decide +kernel⟩
theorem hdX8_statementsOf : yX8_statementsOf.cls ≠ "java/lang/invoke/MethodHandle" ∧ yX8_statementsOf.cls ≠ "java/lang/invoke/VarHandle" ∧ (parseMethodDescriptor yX8_statementsOf.desc).map (fun d => d.parameters.length) = some 1 := ⟨by decide +kernel, by decide +kernel, by decide +kernel⟩
theorem hdX8_digitAt : yX8_digitAt.cls ≠ "java/lang/invoke/MethodHandle" ∧ yX8_digitAt.cls ≠ "java/lang/invoke/VarHandle" ∧ (parseMethodDescriptor yX8_digitAt.desc).map (fun d => d.parameters.length) = some 2 := ⟨by decide +kernel, by decide +kernel, by decide +kernel⟩
theorem hdX8_twoDigitsAt : yX8_twoDigitsAt.cls ≠ "java/lang/invoke/MethodHandle" ∧ yX8_twoDigitsAt.cls ≠ "java/lang/invoke/VarHandle" ∧ (parseMethodDescriptor yX8_twoDigitsAt.desc).map (fun d => d.parameters.length) = some 2 := ⟨by decide +kernel, by decide +kernel, by decide +kernel⟩
theorem hdX8_isLaid : yX8_isLaid.cls ≠ "java/lang/invoke/MethodHandle" ∧ yX8_isLaid.cls ≠ "java/lang/invoke/VarHandle" ∧ (parseMethodDescriptor yX8_isLaid.desc).map (fun d => d.parameters.length) = some 3 := ⟨by decide +kernel, by decide +kernel, by decide +kernel⟩
theorem hdX8_isPlaced : yX8_isPlaced.cls ≠ "java/lang/invoke/MethodHandle" ∧ yX8_isPlaced.cls ≠ "java/lang/invoke/VarHandle" ∧ (parseMethodDescriptor yX8_isPlaced.desc).map (fun d => d.parameters.length) = some 3 := ⟨by decide +kernel, by decide +kernel, by decide +kernel⟩
theorem hdX10_isDistance : yX10_isDistance.cls ≠ "java/lang/invoke/MethodHandle" ∧ yX10_isDistance.cls ≠ "java/lang/invoke/VarHandle" ∧ (parseMethodDescriptor yX10_isDistance.desc).map (fun d => d.parameters.length) = some 1 := ⟨by decide +kernel, by decide +kernel, by decide +kernel⟩
theorem hdX8_isBound : yX8_isBound.cls ≠ "java/lang/invoke/MethodHandle" ∧ yX8_isBound.cls ≠ "java/lang/invoke/VarHandle" ∧ (parseMethodDescriptor yX8_isBound.desc).map (fun d => d.parameters.length) = some 3 := ⟨by decide +kernel, by decide +kernel, by decide +kernel⟩
theorem hdX10_isEither : yX10_isEither.cls ≠ "java/lang/invoke/MethodHandle" ∧ yX10_isEither.cls ≠ "java/lang/invoke/VarHandle" ∧ (parseMethodDescriptor yX10_isEither.desc).map (fun d => d.parameters.length) = some 1 := ⟨by decide +kernel, by decide +kernel, by decide +kernel⟩
theorem hdX8_isWintered : yX8_isWintered.cls ≠ "java/lang/invoke/MethodHandle" ∧ yX8_isWintered.cls ≠ "java/lang/invoke/VarHandle" ∧ (parseMethodDescriptor yX8_isWintered.desc).map (fun d => d.parameters.length) = some 2 := ⟨by decide +kernel, by decide +kernel, by decide +kernel⟩
theorem hdX8_isDone : yX8_isDone.cls ≠ "java/lang/invoke/MethodHandle" ∧ yX8_isDone.cls ≠ "java/lang/invoke/VarHandle" ∧ (parseMethodDescriptor yX8_isDone.desc).map (fun d => d.parameters.length) = some 3 := ⟨by decide +kernel, by decide +kernel, by decide +kernel⟩
theorem hdX8_firstNotDone : yX8_firstNotDone.cls ≠ "java/lang/invoke/MethodHandle" ∧ yX8_firstNotDone.cls ≠ "java/lang/invoke/VarHandle" ∧ (parseMethodDescriptor yX8_firstNotDone.desc).map (fun d => d.parameters.length) = some 2 := ⟨by decide +kernel, by decide +kernel, by decide +kernel⟩
theorem hdX9_isOfCells : yX9_isOfCells.cls ≠ "java/lang/invoke/MethodHandle" ∧ yX9_isOfCells.cls ≠ "java/lang/invoke/VarHandle" ∧ (parseMethodDescriptor yX9_isOfCells.desc).map (fun d => d.parameters.length) = some 1 := ⟨by decide +kernel, by decide +kernel, by decide +kernel⟩
theorem hdX9_firstWrongPlace : yX9_firstWrongPlace.cls ≠ "java/lang/invoke/MethodHandle" ∧ yX9_firstWrongPlace.cls ≠ "java/lang/invoke/VarHandle" ∧ (parseMethodDescriptor yX9_firstWrongPlace.desc).map (fun d => d.parameters.length) = some 2 := ⟨by decide +kernel, by decide +kernel, by decide +kernel⟩
theorem hdX9_fitOn : yX9_fitOn.cls ≠ "java/lang/invoke/MethodHandle" ∧ yX9_fitOn.cls ≠ "java/lang/invoke/VarHandle" ∧ (parseMethodDescriptor yX9_fitOn.desc).map (fun d => d.parameters.length) = some 4 := ⟨by decide +kernel, by decide +kernel, by decide +kernel⟩
theorem hdX9_follow : yX9_follow.cls = RX9 ∧ yX9_follow.cls ≠ "java/lang/invoke/MethodHandle" ∧ yX9_follow.cls ≠ "java/lang/invoke/VarHandle" ∧ (parseMethodDescriptor yX9_follow.desc).map (fun d => d.parameters.length) = some 3 := ⟨rfl, by decide +kernel, by decide +kernel, by decide +kernel⟩
theorem hdX9_leftAround : yX9_leftAround.cls = RX9 ∧ yX9_leftAround.cls ≠ "java/lang/invoke/MethodHandle" ∧ yX9_leftAround.cls ≠ "java/lang/invoke/VarHandle" ∧ (parseMethodDescriptor yX9_leftAround.desc).map (fun d => d.parameters.length) = some 1 := ⟨rfl, by decide +kernel, by decide +kernel, by decide +kernel⟩
theorem hdX9_worstOf : yX9_worstOf.cls = RX9 ∧ yX9_worstOf.cls ≠ "java/lang/invoke/MethodHandle" ∧ yX9_worstOf.cls ≠ "java/lang/invoke/VarHandle" ∧ (parseMethodDescriptor yX9_worstOf.desc).map (fun d => d.parameters.length) = some 1 := ⟨rfl, by decide +kernel, by decide +kernel, by decide +kernel⟩
theorem hdX9_bestDay : yX9_bestDay.cls = RX9 ∧ yX9_bestDay.cls ≠ "java/lang/invoke/MethodHandle" ∧ yX9_bestDay.cls ≠ "java/lang/invoke/VarHandle" ∧ (parseMethodDescriptor yX9_bestDay.desc).map (fun d => d.parameters.length) = some 3 := ⟨rfl, by decide +kernel, by decide +kernel, by decide +kernel⟩
theorem hdX10_isShelf : yX10_isShelf.cls ≠ "java/lang/invoke/MethodHandle" ∧ yX10_isShelf.cls ≠ "java/lang/invoke/VarHandle" ∧ (parseMethodDescriptor yX10_isShelf.desc).map (fun d => d.parameters.length) = some 1 := ⟨by decide +kernel, by decide +kernel, by decide +kernel⟩
theorem hdX10_shelfAt : yX10_shelfAt.cls = RX10 ∧ yX10_shelfAt.cls ≠ "java/lang/invoke/MethodHandle" ∧ yX10_shelfAt.cls ≠ "java/lang/invoke/VarHandle" ∧ (parseMethodDescriptor yX10_shelfAt.desc).map (fun d => d.parameters.length) = some 1 := ⟨rfl, by decide +kernel, by decide +kernel, by decide +kernel⟩
theorem hdX10_refusalUnless : yX10_refusalUnless.cls = RX10 ∧ yX10_refusalUnless.cls ≠ "java/lang/invoke/MethodHandle" ∧ yX10_refusalUnless.cls ≠ "java/lang/invoke/VarHandle" ∧ (parseMethodDescriptor yX10_refusalUnless.desc).map (fun d => d.parameters.length) = some 2 := ⟨rfl, by decide +kernel, by decide +kernel, by decide +kernel⟩
theorem hdX10_refusalOfRow : yX10_refusalOfRow.cls = RX10 ∧ yX10_refusalOfRow.cls ≠ "java/lang/invoke/MethodHandle" ∧ yX10_refusalOfRow.cls ≠ "java/lang/invoke/VarHandle" ∧ (parseMethodDescriptor yX10_refusalOfRow.desc).map (fun d => d.parameters.length) = some 1 := ⟨rfl, by decide +kernel, by decide +kernel, by decide +kernel⟩
theorem hdX10_land : yX10_land.cls = RX10 ∧ yX10_land.cls ≠ "java/lang/invoke/MethodHandle" ∧ yX10_land.cls ≠ "java/lang/invoke/VarHandle" ∧ (parseMethodDescriptor yX10_land.desc).map (fun d => d.parameters.length) = some 1 := ⟨rfl, by decide +kernel, by decide +kernel, by decide +kernel⟩
theorem hdX10_ground : yX10_ground.cls = RX10 ∧ yX10_ground.cls ≠ "java/lang/invoke/MethodHandle" ∧ yX10_ground.cls ≠ "java/lang/invoke/VarHandle" ∧ (parseMethodDescriptor yX10_ground.desc).map (fun d => d.parameters.length) = some 2 := ⟨rfl, by decide +kernel, by decide +kernel, by decide +kernel⟩
theorem hdX10_refusalOfGround : yX10_refusalOfGround.cls = RX10 ∧ yX10_refusalOfGround.cls ≠ "java/lang/invoke/MethodHandle" ∧ yX10_refusalOfGround.cls ≠ "java/lang/invoke/VarHandle" ∧ (parseMethodDescriptor yX10_refusalOfGround.desc).map (fun d => d.parameters.length) = some 1 := ⟨rfl, by decide +kernel, by decide +kernel, by decide +kernel⟩
theorem hdX10_lays : yX10_lays.cls = RX10 ∧ yX10_lays.cls ≠ "java/lang/invoke/MethodHandle" ∧ yX10_lays.cls ≠ "java/lang/invoke/VarHandle" ∧ (parseMethodDescriptor yX10_lays.desc).map (fun d => d.parameters.length) = some 2 := ⟨rfl, by decide +kernel, by decide +kernel, by decide +kernel⟩
theorem hdX10_stands : yX10_stands.cls = RX10 ∧ yX10_stands.cls ≠ "java/lang/invoke/MethodHandle" ∧ yX10_stands.cls ≠ "java/lang/invoke/VarHandle" ∧ (parseMethodDescriptor yX10_stands.desc).map (fun d => d.parameters.length) = some 2 := ⟨rfl, by decide +kernel, by decide +kernel, by decide +kernel⟩
theorem hdX10_set : yX10_set.cls = RX10 ∧ yX10_set.cls ≠ "java/lang/invoke/MethodHandle" ∧ yX10_set.cls ≠ "java/lang/invoke/VarHandle" ∧ (parseMethodDescriptor yX10_set.desc).map (fun d => d.parameters.length) = some 2 := ⟨rfl, by decide +kernel, by decide +kernel, by decide +kernel⟩
theorem hdX10_go : yX10_go.cls = RX10 ∧ yX10_go.cls ≠ "java/lang/invoke/MethodHandle" ∧ yX10_go.cls ≠ "java/lang/invoke/VarHandle" ∧ (parseMethodDescriptor yX10_go.desc).map (fun d => d.parameters.length) = some 2 := ⟨rfl, by decide +kernel, by decide +kernel, by decide +kernel⟩
theorem hdX10_far : yX10_far.cls = RX10 ∧ yX10_far.cls ≠ "java/lang/invoke/MethodHandle" ∧ yX10_far.cls ≠ "java/lang/invoke/VarHandle" ∧ (parseMethodDescriptor yX10_far.desc).map (fun d => d.parameters.length) = some 2 := ⟨rfl, by decide +kernel, by decide +kernel, by decide +kernel⟩
theorem hdX10_steps : yX10_steps.cls = RX10 ∧ yX10_steps.cls ≠ "java/lang/invoke/MethodHandle" ∧ yX10_steps.cls ≠ "java/lang/invoke/VarHandle" ∧ (parseMethodDescriptor yX10_steps.desc).map (fun d => d.parameters.length) = some 2 := ⟨rfl, by decide +kernel, by decide +kernel, by decide +kernel⟩
theorem hdX10_pairs : yX10_pairs.cls = RX10 ∧ yX10_pairs.cls ≠ "java/lang/invoke/MethodHandle" ∧ yX10_pairs.cls ≠ "java/lang/invoke/VarHandle" ∧ (parseMethodDescriptor yX10_pairs.desc).map (fun d => d.parameters.length) = some 1 := ⟨rfl, by decide +kernel, by decide +kernel, by decide +kernel⟩
theorem hdX10_islands : yX10_islands.cls = RX10 ∧ yX10_islands.cls ≠ "java/lang/invoke/MethodHandle" ∧ yX10_islands.cls ≠ "java/lang/invoke/VarHandle" ∧ (parseMethodDescriptor yX10_islands.desc).map (fun d => d.parameters.length) = some 0 := ⟨rfl, by decide +kernel, by decide +kernel, by decide +kernel⟩
theorem hdX10_island : yX10_island.cls = RX10 ∧ yX10_island.cls ≠ "java/lang/invoke/MethodHandle" ∧ yX10_island.cls ≠ "java/lang/invoke/VarHandle" ∧ (parseMethodDescriptor yX10_island.desc).map (fun d => d.parameters.length) = some 1 := ⟨rfl, by decide +kernel, by decide +kernel, by decide +kernel⟩
theorem hdX10_middle : yX10_middle.cls = RX10 ∧ yX10_middle.cls ≠ "java/lang/invoke/MethodHandle" ∧ yX10_middle.cls ≠ "java/lang/invoke/VarHandle" ∧ (parseMethodDescriptor yX10_middle.desc).map (fun d => d.parameters.length) = some 1 := ⟨rfl, by decide +kernel, by decide +kernel, by decide +kernel⟩
theorem hdX10_refusalToSee : yX10_refusalToSee.cls = RX10 ∧ yX10_refusalToSee.cls ≠ "java/lang/invoke/MethodHandle" ∧ yX10_refusalToSee.cls ≠ "java/lang/invoke/VarHandle" ∧ (parseMethodDescriptor yX10_refusalToSee.desc).map (fun d => d.parameters.length) = some 2 := ⟨rfl, by decide +kernel, by decide +kernel, by decide +kernel⟩
theorem hdX10_see : yX10_see.cls = RX10 ∧ yX10_see.cls ≠ "java/lang/invoke/MethodHandle" ∧ yX10_see.cls ≠ "java/lang/invoke/VarHandle" ∧ (parseMethodDescriptor yX10_see.desc).map (fun d => d.parameters.length) = some 2 := ⟨rfl, by decide +kernel, by decide +kernel, by decide +kernel⟩
theorem hdX10_way : yX10_way.cls = RX10 ∧ yX10_way.cls ≠ "java/lang/invoke/MethodHandle" ∧ yX10_way.cls ≠ "java/lang/invoke/VarHandle" ∧ (parseMethodDescriptor yX10_way.desc).map (fun d => d.parameters.length) = some 3 := ⟨rfl, by decide +kernel, by decide +kernel, by decide +kernel⟩
theorem hdX10_hinders : yX10_hinders.cls = RX10 ∧ yX10_hinders.cls ≠ "java/lang/invoke/MethodHandle" ∧ yX10_hinders.cls ≠ "java/lang/invoke/VarHandle" ∧ (parseMethodDescriptor yX10_hinders.desc).map (fun d => d.parameters.length) = some 2 := ⟨rfl, by decide +kernel, by decide +kernel, by decide +kernel⟩
theorem hdX10_needs : yX10_needs.cls = RX10 ∧ yX10_needs.cls ≠ "java/lang/invoke/MethodHandle" ∧ yX10_needs.cls ≠ "java/lang/invoke/VarHandle" ∧ (parseMethodDescriptor yX10_needs.desc).map (fun d => d.parameters.length) = some 2 := ⟨rfl, by decide +kernel, by decide +kernel, by decide +kernel⟩
theorem hdX10_within : yX10_within.cls = RX10 ∧ yX10_within.cls ≠ "java/lang/invoke/MethodHandle" ∧ yX10_within.cls ≠ "java/lang/invoke/VarHandle" ∧ (parseMethodDescriptor yX10_within.desc).map (fun d => d.parameters.length) = some 1 := ⟨rfl, by decide +kernel, by decide +kernel, by decide +kernel⟩
theorem hdX10_refusalToCount : yX10_refusalToCount.cls = RX10 ∧ yX10_refusalToCount.cls ≠ "java/lang/invoke/MethodHandle" ∧ yX10_refusalToCount.cls ≠ "java/lang/invoke/VarHandle" ∧ (parseMethodDescriptor yX10_refusalToCount.desc).map (fun d => d.parameters.length) = some 1 := ⟨rfl, by decide +kernel, by decide +kernel, by decide +kernel⟩
theorem hdX10_ofLongs : yX10_ofLongs.cls ≠ "java/lang/invoke/MethodHandle" ∧ yX10_ofLongs.cls ≠ "java/lang/invoke/VarHandle" ∧ (parseMethodDescriptor yX10_ofLongs.desc).map (fun d => d.parameters.length) = some 1 := ⟨by decide +kernel, by decide +kernel, by decide +kernel⟩
theorem hdX10_ways : yX10_ways.cls = RX10 ∧ yX10_ways.cls ≠ "java/lang/invoke/MethodHandle" ∧ yX10_ways.cls ≠ "java/lang/invoke/VarHandle" ∧ (parseMethodDescriptor yX10_ways.desc).map (fun d => d.parameters.length) = some 1 := ⟨rfl, by decide +kernel, by decide +kernel, by decide +kernel⟩
theorem hdX10_rounds : yX10_rounds.cls = RX10 ∧ yX10_rounds.cls ≠ "java/lang/invoke/MethodHandle" ∧ yX10_rounds.cls ≠ "java/lang/invoke/VarHandle" ∧ (parseMethodDescriptor yX10_rounds.desc).map (fun d => d.parameters.length) = some 1 := ⟨rfl, by decide +kernel, by decide +kernel, by decide +kernel⟩
theorem hdX10_late : yX10_late.cls = RX10 ∧ yX10_late.cls ≠ "java/lang/invoke/MethodHandle" ∧ yX10_late.cls ≠ "java/lang/invoke/VarHandle" ∧ (parseMethodDescriptor yX10_late.desc).map (fun d => d.parameters.length) = some 2 := ⟨rfl, by decide +kernel, by decide +kernel, by decide +kernel⟩
theorem hdX10_refusalOfTrack : yX10_refusalOfTrack.cls = RX10 ∧ yX10_refusalOfTrack.cls ≠ "java/lang/invoke/MethodHandle" ∧ yX10_refusalOfTrack.cls ≠ "java/lang/invoke/VarHandle" ∧ (parseMethodDescriptor yX10_refusalOfTrack.desc).map (fun d => d.parameters.length) = some 1 := ⟨rfl, by decide +kernel, by decide +kernel, by decide +kernel⟩
theorem hdX10_hisWay : yX10_hisWay.cls = RX10 ∧ yX10_hisWay.cls ≠ "java/lang/invoke/MethodHandle" ∧ yX10_hisWay.cls ≠ "java/lang/invoke/VarHandle" ∧ (parseMethodDescriptor yX10_hisWay.desc).map (fun d => d.parameters.length) = some 2 := ⟨rfl, by decide +kernel, by decide +kernel, by decide +kernel⟩
theorem hdX10_letter : yX10_letter.cls = RX10 ∧ yX10_letter.cls ≠ "java/lang/invoke/MethodHandle" ∧ yX10_letter.cls ≠ "java/lang/invoke/VarHandle" ∧ (parseMethodDescriptor yX10_letter.desc).map (fun d => d.parameters.length) = some 1 := ⟨rfl, by decide +kernel, by decide +kernel, by decide +kernel⟩
theorem hdX10_third : yX10_third.cls = RX10 ∧ yX10_third.cls ≠ "java/lang/invoke/MethodHandle" ∧ yX10_third.cls ≠ "java/lang/invoke/VarHandle" ∧ (parseMethodDescriptor yX10_third.desc).map (fun d => d.parameters.length) = some 1 := ⟨rfl, by decide +kernel, by decide +kernel, by decide +kernel⟩
theorem hdX10_game : yX10_game.cls = RX10 ∧ yX10_game.cls ≠ "java/lang/invoke/MethodHandle" ∧ yX10_game.cls ≠ "java/lang/invoke/VarHandle" ∧ (parseMethodDescriptor yX10_game.desc).map (fun d => d.parameters.length) = some 1 := ⟨rfl, by decide +kernel, by decide +kernel, by decide +kernel⟩
theorem hdX10_snow : yX10_snow.cls = RX10 ∧ yX10_snow.cls ≠ "java/lang/invoke/MethodHandle" ∧ yX10_snow.cls ≠ "java/lang/invoke/VarHandle" ∧ (parseMethodDescriptor yX10_snow.desc).map (fun d => d.parameters.length) = some 3 := ⟨rfl, by decide +kernel, by decide +kernel, by decide +kernel⟩
theorem hdX10_mean : yX10_mean.cls = RX10 ∧ yX10_mean.cls ≠ "java/lang/invoke/MethodHandle" ∧ yX10_mean.cls ≠ "java/lang/invoke/VarHandle" ∧ (parseMethodDescriptor yX10_mean.desc).map (fun d => d.parameters.length) = some 1 := ⟨rfl, by decide +kernel, by decide +kernel, by decide +kernel⟩
theorem hdX10_curve : yX10_curve.cls = RX10 ∧ yX10_curve.cls ≠ "java/lang/invoke/MethodHandle" ∧ yX10_curve.cls ≠ "java/lang/invoke/VarHandle" ∧ (parseMethodDescriptor yX10_curve.desc).map (fun d => d.parameters.length) = some 1 := ⟨rfl, by decide +kernel, by decide +kernel, by decide +kernel⟩
theorem hdX10_judge : yX10_judge.cls = RX10 ∧ yX10_judge.cls ≠ "java/lang/invoke/MethodHandle" ∧ yX10_judge.cls ≠ "java/lang/invoke/VarHandle" ∧ (parseMethodDescriptor yX10_judge.desc).map (fun d => d.parameters.length) = some 1 := ⟨rfl, by decide +kernel, by decide +kernel, by decide +kernel⟩
theorem hdX10_nextSeed : yX10_nextSeed.cls ≠ "java/lang/invoke/MethodHandle" ∧ yX10_nextSeed.cls ≠ "java/lang/invoke/VarHandle" ∧ (parseMethodDescriptor yX10_nextSeed.desc).map (fun d => d.parameters.length) = some 1 := ⟨by decide +kernel, by decide +kernel, by decide +kernel⟩
theorem hdX10_drawOf : yX10_drawOf.cls ≠ "java/lang/invoke/MethodHandle" ∧ yX10_drawOf.cls ≠ "java/lang/invoke/VarHandle" ∧ (parseMethodDescriptor yX10_drawOf.desc).map (fun d => d.parameters.length) = some 1 := ⟨by decide +kernel, by decide +kernel, by decide +kernel⟩
theorem hdX10_seeds : yX10_seeds.cls = RX10 ∧ yX10_seeds.cls ≠ "java/lang/invoke/MethodHandle" ∧ yX10_seeds.cls ≠ "java/lang/invoke/VarHandle" ∧ (parseMethodDescriptor yX10_seeds.desc).map (fun d => d.parameters.length) = some 3 := ⟨rfl, by decide +kernel, by decide +kernel, by decide +kernel⟩
theorem hdX10_image : yX10_image.cls = RX10 ∧ yX10_image.cls ≠ "java/lang/invoke/MethodHandle" ∧ yX10_image.cls ≠ "java/lang/invoke/VarHandle" ∧ (parseMethodDescriptor yX10_image.desc).map (fun d => d.parameters.length) = some 0 := ⟨rfl, by decide +kernel, by decide +kernel, by decide +kernel⟩
theorem hdX10_restore : yX10_restore.cls = RX10 ∧ yX10_restore.cls ≠ "java/lang/invoke/MethodHandle" ∧ yX10_restore.cls ≠ "java/lang/invoke/VarHandle" ∧ (parseMethodDescriptor yX10_restore.desc).map (fun d => d.parameters.length) = some 0 := ⟨rfl, by decide +kernel, by decide +kernel, by decide +kernel⟩
theorem hdX10_count : yX10_count.cls = RX10 ∧ yX10_count.cls ≠ "java/lang/invoke/MethodHandle" ∧ yX10_count.cls ≠ "java/lang/invoke/VarHandle" ∧ (parseMethodDescriptor yX10_count.desc).map (fun d => d.parameters.length) = some 1 := ⟨rfl, by decide +kernel, by decide +kernel, by decide +kernel⟩
theorem hdX10_keep : yX10_keep.cls = RX10 ∧ yX10_keep.cls ≠ "java/lang/invoke/MethodHandle" ∧ yX10_keep.cls ≠ "java/lang/invoke/VarHandle" ∧ (parseMethodDescriptor yX10_keep.desc).map (fun d => d.parameters.length) = some 4 := ⟨rfl, by decide +kernel, by decide +kernel, by decide +kernel⟩
theorem hdX10_row : yX10_row.cls = RX10 ∧ yX10_row.cls ≠ "java/lang/invoke/MethodHandle" ∧ yX10_row.cls ≠ "java/lang/invoke/VarHandle" ∧ (parseMethodDescriptor yX10_row.desc).map (fun d => d.parameters.length) = some 3 := ⟨rfl, by decide +kernel, by decide +kernel, by decide +kernel⟩
theorem hdX10_put : yX10_put.cls = RX10 ∧ yX10_put.cls ≠ "java/lang/invoke/MethodHandle" ∧ yX10_put.cls ≠ "java/lang/invoke/VarHandle" ∧ (parseMethodDescriptor yX10_put.desc).map (fun d => d.parameters.length) = some 3 := ⟨rfl, by decide +kernel, by decide +kernel, by decide +kernel⟩
theorem hdX10_copy : yX10_copy.cls = RX10 ∧ yX10_copy.cls ≠ "java/lang/invoke/MethodHandle" ∧ yX10_copy.cls ≠ "java/lang/invoke/VarHandle" ∧ (parseMethodDescriptor yX10_copy.desc).map (fun d => d.parameters.length) = some 5 := ⟨rfl, by decide +kernel, by decide +kernel, by decide +kernel⟩
theorem hdX10_cost : yX10_cost.cls = RX10 ∧ yX10_cost.cls ≠ "java/lang/invoke/MethodHandle" ∧ yX10_cost.cls ≠ "java/lang/invoke/VarHandle" ∧ (parseMethodDescriptor yX10_cost.desc).map (fun d => d.parameters.length) = some 1 := ⟨rfl, by decide +kernel, by decide +kernel, by decide +kernel⟩
theorem hdX11_thrown : yX11_thrown.cls = RX11 ∧ yX11_thrown.cls ≠ "java/lang/invoke/MethodHandle" ∧ yX11_thrown.cls ≠ "java/lang/invoke/VarHandle" ∧ (parseMethodDescriptor yX11_thrown.desc).map (fun d => d.parameters.length) = some 0 := ⟨rfl, by decide +kernel, by decide +kernel, by decide +kernel⟩
theorem hdX11_in : yX11_in.cls ≠ "java/lang/invoke/MethodHandle" ∧ yX11_in.cls ≠ "java/lang/invoke/VarHandle" ∧ (parseMethodDescriptor yX11_in.desc).map (fun d => d.parameters.length) = some 3 := ⟨by decide +kernel, by decide +kernel, by decide +kernel⟩
theorem hdX11_isCell : yX11_isCell.cls ≠ "java/lang/invoke/MethodHandle" ∧ yX11_isCell.cls ≠ "java/lang/invoke/VarHandle" ∧ (parseMethodDescriptor yX11_isCell.desc).map (fun d => d.parameters.length) = some 1 := ⟨by decide +kernel, by decide +kernel, by decide +kernel⟩
theorem hdX11_plainly : yX11_plainly.cls ≠ "java/lang/invoke/MethodHandle" ∧ yX11_plainly.cls ≠ "java/lang/invoke/VarHandle" ∧ (parseMethodDescriptor yX11_plainly.desc).map (fun d => d.parameters.length) = some 1 := ⟨by decide +kernel, by decide +kernel, by decide +kernel⟩
theorem hdX11_isOn : yX11_isOn.cls ≠ "java/lang/invoke/MethodHandle" ∧ yX11_isOn.cls ≠ "java/lang/invoke/VarHandle" ∧ (parseMethodDescriptor yX11_isOn.desc).map (fun d => d.parameters.length) = some 2 := ⟨by decide +kernel, by decide +kernel, by decide +kernel⟩
theorem hdX11_onesOf : yX11_onesOf.cls ≠ "java/lang/invoke/MethodHandle" ∧ yX11_onesOf.cls ≠ "java/lang/invoke/VarHandle" ∧ (parseMethodDescriptor yX11_onesOf.desc).map (fun d => d.parameters.length) = some 1 := ⟨by decide +kernel, by decide +kernel, by decide +kernel⟩
theorem hdX11_heightOf : yX11_heightOf.cls = RX11 ∧ yX11_heightOf.cls ≠ "java/lang/invoke/MethodHandle" ∧ yX11_heightOf.cls ≠ "java/lang/invoke/VarHandle" ∧ (parseMethodDescriptor yX11_heightOf.desc).map (fun d => d.parameters.length) = some 1 := ⟨rfl, by decide +kernel, by decide +kernel, by decide +kernel⟩
theorem hdX11_isOpen : yX11_isOpen.cls = RX11 ∧ yX11_isOpen.cls ≠ "java/lang/invoke/MethodHandle" ∧ yX11_isOpen.cls ≠ "java/lang/invoke/VarHandle" ∧ (parseMethodDescriptor yX11_isOpen.desc).map (fun d => d.parameters.length) = some 1 := ⟨rfl, by decide +kernel, by decide +kernel, by decide +kernel⟩
theorem hdX11_chanceOf : yX11_chanceOf.cls = RX11 ∧ yX11_chanceOf.cls ≠ "java/lang/invoke/MethodHandle" ∧ yX11_chanceOf.cls ≠ "java/lang/invoke/VarHandle" ∧ (parseMethodDescriptor yX11_chanceOf.desc).map (fun d => d.parameters.length) = some 1 := ⟨rfl, by decide +kernel, by decide +kernel, by decide +kernel⟩
theorem hdX11_farOf : yX11_farOf.cls = RX11 ∧ yX11_farOf.cls ≠ "java/lang/invoke/MethodHandle" ∧ yX11_farOf.cls ≠ "java/lang/invoke/VarHandle" ∧ (parseMethodDescriptor yX11_farOf.desc).map (fun d => d.parameters.length) = some 2 := ⟨rfl, by decide +kernel, by decide +kernel, by decide +kernel⟩
theorem hdX11_isOff : yX11_isOff.cls = RX11 ∧ yX11_isOff.cls ≠ "java/lang/invoke/MethodHandle" ∧ yX11_isOff.cls ≠ "java/lang/invoke/VarHandle" ∧ (parseMethodDescriptor yX11_isOff.desc).map (fun d => d.parameters.length) = some 2 := ⟨rfl, by decide +kernel, by decide +kernel, by decide +kernel⟩
theorem hdX11_beside : yX11_beside.cls ≠ "java/lang/invoke/MethodHandle" ∧ yX11_beside.cls ≠ "java/lang/invoke/VarHandle" ∧ (parseMethodDescriptor yX11_beside.desc).map (fun d => d.parameters.length) = some 2 := ⟨by decide +kernel, by decide +kernel, by decide +kernel⟩
theorem hdX11_goneTo : yX11_goneTo.cls = RX11 ∧ yX11_goneTo.cls ≠ "java/lang/invoke/MethodHandle" ∧ yX11_goneTo.cls ≠ "java/lang/invoke/VarHandle" ∧ (parseMethodDescriptor yX11_goneTo.desc).map (fun d => d.parameters.length) = some 2 := ⟨rfl, by decide +kernel, by decide +kernel, by decide +kernel⟩
theorem hdX11_openCells : yX11_openCells.cls = RX11 ∧ yX11_openCells.cls ≠ "java/lang/invoke/MethodHandle" ∧ yX11_openCells.cls ≠ "java/lang/invoke/VarHandle" ∧ (parseMethodDescriptor yX11_openCells.desc).map (fun d => d.parameters.length) = some 0 := ⟨rfl, by decide +kernel, by decide +kernel, by decide +kernel⟩
theorem hdX11_goOn : yX11_goOn.cls = RX11 ∧ yX11_goOn.cls ≠ "java/lang/invoke/MethodHandle" ∧ yX11_goOn.cls ≠ "java/lang/invoke/VarHandle" ∧ (parseMethodDescriptor yX11_goOn.desc).map (fun d => d.parameters.length) = some 1 := ⟨rfl, by decide +kernel, by decide +kernel, by decide +kernel⟩
theorem hdX11_here : yX11_here.cls = RX11 ∧ yX11_here.cls ≠ "java/lang/invoke/MethodHandle" ∧ yX11_here.cls ≠ "java/lang/invoke/VarHandle" ∧ (parseMethodDescriptor yX11_here.desc).map (fun d => d.parameters.length) = some 0 := ⟨rfl, by decide +kernel, by decide +kernel, by decide +kernel⟩
theorem hdX11_readDigits : yX11_readDigits.cls = RX11 ∧ yX11_readDigits.cls ≠ "java/lang/invoke/MethodHandle" ∧ yX11_readDigits.cls ≠ "java/lang/invoke/VarHandle" ∧ (parseMethodDescriptor yX11_readDigits.desc).map (fun d => d.parameters.length) = some 1 := ⟨rfl, by decide +kernel, by decide +kernel, by decide +kernel⟩
theorem hdX11_isLetter : yX11_isLetter.cls ≠ "java/lang/invoke/MethodHandle" ∧ yX11_isLetter.cls ≠ "java/lang/invoke/VarHandle" ∧ (parseMethodDescriptor yX11_isLetter.desc).map (fun d => d.parameters.length) = some 1 := ⟨by decide +kernel, by decide +kernel, by decide +kernel⟩
theorem hdX11_readStatement : yX11_readStatement.cls = RX11 ∧ yX11_readStatement.cls ≠ "java/lang/invoke/MethodHandle" ∧ yX11_readStatement.cls ≠ "java/lang/invoke/VarHandle" ∧ (parseMethodDescriptor yX11_readStatement.desc).map (fun d => d.parameters.length) = some 0 := ⟨rfl, by decide +kernel, by decide +kernel, by decide +kernel⟩
theorem hdX11_canGo : yX11_canGo.cls = RX11 ∧ yX11_canGo.cls ≠ "java/lang/invoke/MethodHandle" ∧ yX11_canGo.cls ≠ "java/lang/invoke/VarHandle" ∧ (parseMethodDescriptor yX11_canGo.desc).map (fun d => d.parameters.length) = some 2 := ⟨rfl, by decide +kernel, by decide +kernel, by decide +kernel⟩
theorem hdX11_goBoth : yX11_goBoth.cls = RX11 ∧ yX11_goBoth.cls ≠ "java/lang/invoke/MethodHandle" ∧ yX11_goBoth.cls ≠ "java/lang/invoke/VarHandle" ∧ (parseMethodDescriptor yX11_goBoth.desc).map (fun d => d.parameters.length) = some 2 := ⟨rfl, by decide +kernel, by decide +kernel, by decide +kernel⟩
theorem hdX11_comes : yX11_comes.cls = RX11 ∧ yX11_comes.cls ≠ "java/lang/invoke/MethodHandle" ∧ yX11_comes.cls ≠ "java/lang/invoke/VarHandle" ∧ (parseMethodDescriptor yX11_comes.desc).map (fun d => d.parameters.length) = some 1 := ⟨rfl, by decide +kernel, by decide +kernel, by decide +kernel⟩
theorem hdX11_wrongRow : yX11_wrongRow.cls = RX11 ∧ yX11_wrongRow.cls ≠ "java/lang/invoke/MethodHandle" ∧ yX11_wrongRow.cls ≠ "java/lang/invoke/VarHandle" ∧ (parseMethodDescriptor yX11_wrongRow.desc).map (fun d => d.parameters.length) = some 1 := ⟨rfl, by decide +kernel, by decide +kernel, by decide +kernel⟩
theorem hdX11_carry : yX11_carry.cls = RX11 ∧ yX11_carry.cls ≠ "java/lang/invoke/MethodHandle" ∧ yX11_carry.cls ≠ "java/lang/invoke/VarHandle" ∧ (parseMethodDescriptor yX11_carry.desc).map (fun d => d.parameters.length) = some 1 := ⟨rfl, by decide +kernel, by decide +kernel, by decide +kernel⟩
theorem hdX11_carryAll : yX11_carryAll.cls = RX11 ∧ yX11_carryAll.cls ≠ "java/lang/invoke/MethodHandle" ∧ yX11_carryAll.cls ≠ "java/lang/invoke/VarHandle" ∧ (parseMethodDescriptor yX11_carryAll.desc).map (fun d => d.parameters.length) = some 2 := ⟨rfl, by decide +kernel, by decide +kernel, by decide +kernel⟩
theorem hdX11_land : yX11_land.cls = RX11 ∧ yX11_land.cls ≠ "java/lang/invoke/MethodHandle" ∧ yX11_land.cls ≠ "java/lang/invoke/VarHandle" ∧ (parseMethodDescriptor yX11_land.desc).map (fun d => d.parameters.length) = some 1 := ⟨rfl, by decide +kernel, by decide +kernel, by decide +kernel⟩
theorem hdX11_image : yX11_image.cls = RX11 ∧ yX11_image.cls ≠ "java/lang/invoke/MethodHandle" ∧ yX11_image.cls ≠ "java/lang/invoke/VarHandle" ∧ (parseMethodDescriptor yX11_image.desc).map (fun d => d.parameters.length) = some 0 := ⟨rfl, by decide +kernel, by decide +kernel, by decide +kernel⟩
theorem hdX11_restore : yX11_restore.cls = RX11 ∧ yX11_restore.cls ≠ "java/lang/invoke/MethodHandle" ∧ yX11_restore.cls ≠ "java/lang/invoke/VarHandle" ∧ (parseMethodDescriptor yX11_restore.desc).map (fun d => d.parameters.length) = some 0 := ⟨rfl, by decide +kernel, by decide +kernel, by decide +kernel⟩
theorem hdX11_ground : yX11_ground.cls = RX11 ∧ yX11_ground.cls ≠ "java/lang/invoke/MethodHandle" ∧ yX11_ground.cls ≠ "java/lang/invoke/VarHandle" ∧ (parseMethodDescriptor yX11_ground.desc).map (fun d => d.parameters.length) = some 2 := ⟨rfl, by decide +kernel, by decide +kernel, by decide +kernel⟩
theorem hdX11_wrongKept : yX11_wrongKept.cls = RX11 ∧ yX11_wrongKept.cls ≠ "java/lang/invoke/MethodHandle" ∧ yX11_wrongKept.cls ≠ "java/lang/invoke/VarHandle" ∧ (parseMethodDescriptor yX11_wrongKept.desc).map (fun d => d.parameters.length) = some 1 := ⟨rfl, by decide +kernel, by decide +kernel, by decide +kernel⟩
theorem hdX11_lays : yX11_lays.cls = RX11 ∧ yX11_lays.cls ≠ "java/lang/invoke/MethodHandle" ∧ yX11_lays.cls ≠ "java/lang/invoke/VarHandle" ∧ (parseMethodDescriptor yX11_lays.desc).map (fun d => d.parameters.length) = some 2 := ⟨rfl, by decide +kernel, by decide +kernel, by decide +kernel⟩
theorem hdX11_stands : yX11_stands.cls = RX11 ∧ yX11_stands.cls ≠ "java/lang/invoke/MethodHandle" ∧ yX11_stands.cls ≠ "java/lang/invoke/VarHandle" ∧ (parseMethodDescriptor yX11_stands.desc).map (fun d => d.parameters.length) = some 2 := ⟨rfl, by decide +kernel, by decide +kernel, by decide +kernel⟩
theorem hdX11_set : yX11_set.cls = RX11 ∧ yX11_set.cls ≠ "java/lang/invoke/MethodHandle" ∧ yX11_set.cls ≠ "java/lang/invoke/VarHandle" ∧ (parseMethodDescriptor yX11_set.desc).map (fun d => d.parameters.length) = some 2 := ⟨rfl, by decide +kernel, by decide +kernel, by decide +kernel⟩
theorem hdX11_go : yX11_go.cls = RX11 ∧ yX11_go.cls ≠ "java/lang/invoke/MethodHandle" ∧ yX11_go.cls ≠ "java/lang/invoke/VarHandle" ∧ (parseMethodDescriptor yX11_go.desc).map (fun d => d.parameters.length) = some 2 := ⟨rfl, by decide +kernel, by decide +kernel, by decide +kernel⟩
theorem hdX11_far : yX11_far.cls = RX11 ∧ yX11_far.cls ≠ "java/lang/invoke/MethodHandle" ∧ yX11_far.cls ≠ "java/lang/invoke/VarHandle" ∧ (parseMethodDescriptor yX11_far.desc).map (fun d => d.parameters.length) = some 2 := ⟨rfl, by decide +kernel, by decide +kernel, by decide +kernel⟩
theorem hdX11_layStepsFrom : yX11_layStepsFrom.cls = RX11 ∧ yX11_layStepsFrom.cls ≠ "java/lang/invoke/MethodHandle" ∧ yX11_layStepsFrom.cls ≠ "java/lang/invoke/VarHandle" ∧ (parseMethodDescriptor yX11_layStepsFrom.desc).map (fun d => d.parameters.length) = some 1 := ⟨rfl, by decide +kernel, by decide +kernel, by decide +kernel⟩
theorem hdX11_steps : yX11_steps.cls = RX11 ∧ yX11_steps.cls ≠ "java/lang/invoke/MethodHandle" ∧ yX11_steps.cls ≠ "java/lang/invoke/VarHandle" ∧ (parseMethodDescriptor yX11_steps.desc).map (fun d => d.parameters.length) = some 2 := ⟨rfl, by decide +kernel, by decide +kernel, by decide +kernel⟩
theorem hdX11_isPair : yX11_isPair.cls = RX11 ∧ yX11_isPair.cls ≠ "java/lang/invoke/MethodHandle" ∧ yX11_isPair.cls ≠ "java/lang/invoke/VarHandle" ∧ (parseMethodDescriptor yX11_isPair.desc).map (fun d => d.parameters.length) = some 2 := ⟨rfl, by decide +kernel, by decide +kernel, by decide +kernel⟩
theorem hdX11_pairMany : yX11_pairMany.cls = RX11 ∧ yX11_pairMany.cls ≠ "java/lang/invoke/MethodHandle" ∧ yX11_pairMany.cls ≠ "java/lang/invoke/VarHandle" ∧ (parseMethodDescriptor yX11_pairMany.desc).map (fun d => d.parameters.length) = some 0 := ⟨rfl, by decide +kernel, by decide +kernel, by decide +kernel⟩
theorem hdX11_pairs : yX11_pairs.cls = RX11 ∧ yX11_pairs.cls ≠ "java/lang/invoke/MethodHandle" ∧ yX11_pairs.cls ≠ "java/lang/invoke/VarHandle" ∧ (parseMethodDescriptor yX11_pairs.desc).map (fun d => d.parameters.length) = some 1 := ⟨rfl, by decide +kernel, by decide +kernel, by decide +kernel⟩
theorem hdX11_partWith : yX11_partWith.cls = RX11 ∧ yX11_partWith.cls ≠ "java/lang/invoke/MethodHandle" ∧ yX11_partWith.cls ≠ "java/lang/invoke/VarHandle" ∧ (parseMethodDescriptor yX11_partWith.desc).map (fun d => d.parameters.length) = some 1 := ⟨rfl, by decide +kernel, by decide +kernel, by decide +kernel⟩
theorem hdX11_islands : yX11_islands.cls = RX11 ∧ yX11_islands.cls ≠ "java/lang/invoke/MethodHandle" ∧ yX11_islands.cls ≠ "java/lang/invoke/VarHandle" ∧ (parseMethodDescriptor yX11_islands.desc).map (fun d => d.parameters.length) = some 0 := ⟨rfl, by decide +kernel, by decide +kernel, by decide +kernel⟩
theorem hdX11_island : yX11_island.cls = RX11 ∧ yX11_island.cls ≠ "java/lang/invoke/MethodHandle" ∧ yX11_island.cls ≠ "java/lang/invoke/VarHandle" ∧ (parseMethodDescriptor yX11_island.desc).map (fun d => d.parameters.length) = some 1 := ⟨rfl, by decide +kernel, by decide +kernel, by decide +kernel⟩
theorem hdX11_middle : yX11_middle.cls = RX11 ∧ yX11_middle.cls ≠ "java/lang/invoke/MethodHandle" ∧ yX11_middle.cls ≠ "java/lang/invoke/VarHandle" ∧ (parseMethodDescriptor yX11_middle.desc).map (fun d => d.parameters.length) = some 1 := ⟨rfl, by decide +kernel, by decide +kernel, by decide +kernel⟩
theorem hdX11_layDaysFrom : yX11_layDaysFrom.cls = RX11 ∧ yX11_layDaysFrom.cls ≠ "java/lang/invoke/MethodHandle" ∧ yX11_layDaysFrom.cls ≠ "java/lang/invoke/VarHandle" ∧ (parseMethodDescriptor yX11_layDaysFrom.desc).map (fun d => d.parameters.length) = some 2 := ⟨rfl, by decide +kernel, by decide +kernel, by decide +kernel⟩
theorem hdX11_areBoth : yX11_areBoth.cls = RX11 ∧ yX11_areBoth.cls ≠ "java/lang/invoke/MethodHandle" ∧ yX11_areBoth.cls ≠ "java/lang/invoke/VarHandle" ∧ (parseMethodDescriptor yX11_areBoth.desc).map (fun d => d.parameters.length) = some 0 := ⟨rfl, by decide +kernel, by decide +kernel, by decide +kernel⟩
theorem hdX11_wrongTwo : yX11_wrongTwo.cls = RX11 ∧ yX11_wrongTwo.cls ≠ "java/lang/invoke/MethodHandle" ∧ yX11_wrongTwo.cls ≠ "java/lang/invoke/VarHandle" ∧ (parseMethodDescriptor yX11_wrongTwo.desc).map (fun d => d.parameters.length) = some 2 := ⟨rfl, by decide +kernel, by decide +kernel, by decide +kernel⟩
theorem hdX11_seeDays : yX11_seeDays.cls = RX11 ∧ yX11_seeDays.cls ≠ "java/lang/invoke/MethodHandle" ∧ yX11_seeDays.cls ≠ "java/lang/invoke/VarHandle" ∧ (parseMethodDescriptor yX11_seeDays.desc).map (fun d => d.parameters.length) = some 2 := ⟨rfl, by decide +kernel, by decide +kernel, by decide +kernel⟩
theorem hdX11_see : yX11_see.cls = RX11 ∧ yX11_see.cls ≠ "java/lang/invoke/MethodHandle" ∧ yX11_see.cls ≠ "java/lang/invoke/VarHandle" ∧ (parseMethodDescriptor yX11_see.desc).map (fun d => d.parameters.length) = some 2 := ⟨rfl, by decide +kernel, by decide +kernel, by decide +kernel⟩
theorem hdX11_way : yX11_way.cls = RX11 ∧ yX11_way.cls ≠ "java/lang/invoke/MethodHandle" ∧ yX11_way.cls ≠ "java/lang/invoke/VarHandle" ∧ (parseMethodDescriptor yX11_way.desc).map (fun d => d.parameters.length) = some 3 := ⟨rfl, by decide +kernel, by decide +kernel, by decide +kernel⟩
theorem hdX11_hinders : yX11_hinders.cls = RX11 ∧ yX11_hinders.cls ≠ "java/lang/invoke/MethodHandle" ∧ yX11_hinders.cls ≠ "java/lang/invoke/VarHandle" ∧ (parseMethodDescriptor yX11_hinders.desc).map (fun d => d.parameters.length) = some 2 := ⟨rfl, by decide +kernel, by decide +kernel, by decide +kernel⟩
theorem hdX11_needs : yX11_needs.cls = RX11 ∧ yX11_needs.cls ≠ "java/lang/invoke/MethodHandle" ∧ yX11_needs.cls ≠ "java/lang/invoke/VarHandle" ∧ (parseMethodDescriptor yX11_needs.desc).map (fun d => d.parameters.length) = some 2 := ⟨rfl, by decide +kernel, by decide +kernel, by decide +kernel⟩
theorem hdX11_within : yX11_within.cls = RX11 ∧ yX11_within.cls ≠ "java/lang/invoke/MethodHandle" ∧ yX11_within.cls ≠ "java/lang/invoke/VarHandle" ∧ (parseMethodDescriptor yX11_within.desc).map (fun d => d.parameters.length) = some 1 := ⟨rfl, by decide +kernel, by decide +kernel, by decide +kernel⟩
theorem hdX11_layWays : yX11_layWays.cls = RX11 ∧ yX11_layWays.cls ≠ "java/lang/invoke/MethodHandle" ∧ yX11_layWays.cls ≠ "java/lang/invoke/VarHandle" ∧ (parseMethodDescriptor yX11_layWays.desc).map (fun d => d.parameters.length) = some 1 := ⟨rfl, by decide +kernel, by decide +kernel, by decide +kernel⟩
theorem hdX11_wrongWays : yX11_wrongWays.cls = RX11 ∧ yX11_wrongWays.cls ≠ "java/lang/invoke/MethodHandle" ∧ yX11_wrongWays.cls ≠ "java/lang/invoke/VarHandle" ∧ (parseMethodDescriptor yX11_wrongWays.desc).map (fun d => d.parameters.length) = some 1 := ⟨rfl, by decide +kernel, by decide +kernel, by decide +kernel⟩
theorem hdX11_ways : yX11_ways.cls = RX11 ∧ yX11_ways.cls ≠ "java/lang/invoke/MethodHandle" ∧ yX11_ways.cls ≠ "java/lang/invoke/VarHandle" ∧ (parseMethodDescriptor yX11_ways.desc).map (fun d => d.parameters.length) = some 1 := ⟨rfl, by decide +kernel, by decide +kernel, by decide +kernel⟩
theorem hdX11_rounds : yX11_rounds.cls = RX11 ∧ yX11_rounds.cls ≠ "java/lang/invoke/MethodHandle" ∧ yX11_rounds.cls ≠ "java/lang/invoke/VarHandle" ∧ (parseMethodDescriptor yX11_rounds.desc).map (fun d => d.parameters.length) = some 1 := ⟨rfl, by decide +kernel, by decide +kernel, by decide +kernel⟩
theorem hdX11_late : yX11_late.cls = RX11 ∧ yX11_late.cls ≠ "java/lang/invoke/MethodHandle" ∧ yX11_late.cls ≠ "java/lang/invoke/VarHandle" ∧ (parseMethodDescriptor yX11_late.desc).map (fun d => d.parameters.length) = some 2 := ⟨rfl, by decide +kernel, by decide +kernel, by decide +kernel⟩
theorem hdX11_wrongCells : yX11_wrongCells.cls = RX11 ∧ yX11_wrongCells.cls ≠ "java/lang/invoke/MethodHandle" ∧ yX11_wrongCells.cls ≠ "java/lang/invoke/VarHandle" ∧ (parseMethodDescriptor yX11_wrongCells.desc).map (fun d => d.parameters.length) = some 1 := ⟨rfl, by decide +kernel, by decide +kernel, by decide +kernel⟩
theorem hdX11_notOff : yX11_notOff.cls = RX11 ∧ yX11_notOff.cls ≠ "java/lang/invoke/MethodHandle" ∧ yX11_notOff.cls ≠ "java/lang/invoke/VarHandle" ∧ (parseMethodDescriptor yX11_notOff.desc).map (fun d => d.parameters.length) = some 3 := ⟨rfl, by decide +kernel, by decide +kernel, by decide +kernel⟩
theorem hdX11_toTheLast : yX11_toTheLast.cls = RX11 ∧ yX11_toTheLast.cls ≠ "java/lang/invoke/MethodHandle" ∧ yX11_toTheLast.cls ≠ "java/lang/invoke/VarHandle" ∧ (parseMethodDescriptor yX11_toTheLast.desc).map (fun d => d.parameters.length) = some 3 := ⟨rfl, by decide +kernel, by decide +kernel, by decide +kernel⟩
theorem hdX11_hisWay : yX11_hisWay.cls = RX11 ∧ yX11_hisWay.cls ≠ "java/lang/invoke/MethodHandle" ∧ yX11_hisWay.cls ≠ "java/lang/invoke/VarHandle" ∧ (parseMethodDescriptor yX11_hisWay.desc).map (fun d => d.parameters.length) = some 2 := ⟨rfl, by decide +kernel, by decide +kernel, by decide +kernel⟩
theorem hdX11_letter : yX11_letter.cls = RX11 ∧ yX11_letter.cls ≠ "java/lang/invoke/MethodHandle" ∧ yX11_letter.cls ≠ "java/lang/invoke/VarHandle" ∧ (parseMethodDescriptor yX11_letter.desc).map (fun d => d.parameters.length) = some 1 := ⟨rfl, by decide +kernel, by decide +kernel, by decide +kernel⟩
theorem hdX11_third : yX11_third.cls = RX11 ∧ yX11_third.cls ≠ "java/lang/invoke/MethodHandle" ∧ yX11_third.cls ≠ "java/lang/invoke/VarHandle" ∧ (parseMethodDescriptor yX11_third.desc).map (fun d => d.parameters.length) = some 1 := ⟨rfl, by decide +kernel, by decide +kernel, by decide +kernel⟩
theorem hdX11_farBy : yX11_farBy.cls = RX11 ∧ yX11_farBy.cls ≠ "java/lang/invoke/MethodHandle" ∧ yX11_farBy.cls ≠ "java/lang/invoke/VarHandle" ∧ (parseMethodDescriptor yX11_farBy.desc).map (fun d => d.parameters.length) = some 2 := ⟨rfl, by decide +kernel, by decide +kernel, by decide +kernel⟩
theorem hdX11_rests : yX11_rests.cls = RX11 ∧ yX11_rests.cls ≠ "java/lang/invoke/MethodHandle" ∧ yX11_rests.cls ≠ "java/lang/invoke/VarHandle" ∧ (parseMethodDescriptor yX11_rests.desc).map (fun d => d.parameters.length) = some 2 := ⟨rfl, by decide +kernel, by decide +kernel, by decide +kernel⟩
theorem hdX11_game : yX11_game.cls = RX11 ∧ yX11_game.cls ≠ "java/lang/invoke/MethodHandle" ∧ yX11_game.cls ≠ "java/lang/invoke/VarHandle" ∧ (parseMethodDescriptor yX11_game.desc).map (fun d => d.parameters.length) = some 1 := ⟨rfl, by decide +kernel, by decide +kernel, by decide +kernel⟩
theorem hdX11_divisor : yX11_divisor.cls ≠ "java/lang/invoke/MethodHandle" ∧ yX11_divisor.cls ≠ "java/lang/invoke/VarHandle" ∧ (parseMethodDescriptor yX11_divisor.desc).map (fun d => d.parameters.length) = some 2 := ⟨by decide +kernel, by decide +kernel, by decide +kernel⟩
theorem hdX11_partOf : yX11_partOf.cls ≠ "java/lang/invoke/MethodHandle" ∧ yX11_partOf.cls ≠ "java/lang/invoke/VarHandle" ∧ (parseMethodDescriptor yX11_partOf.desc).map (fun d => d.parameters.length) = some 3 := ⟨by decide +kernel, by decide +kernel, by decide +kernel⟩
theorem hdX11_isWay : yX11_isWay.cls ≠ "java/lang/invoke/MethodHandle" ∧ yX11_isWay.cls ≠ "java/lang/invoke/VarHandle" ∧ (parseMethodDescriptor yX11_isWay.desc).map (fun d => d.parameters.length) = some 3 := ⟨by decide +kernel, by decide +kernel, by decide +kernel⟩
theorem hdX11_snow : yX11_snow.cls = RX11 ∧ yX11_snow.cls ≠ "java/lang/invoke/MethodHandle" ∧ yX11_snow.cls ≠ "java/lang/invoke/VarHandle" ∧ (parseMethodDescriptor yX11_snow.desc).map (fun d => d.parameters.length) = some 3 := ⟨rfl, by decide +kernel, by decide +kernel, by decide +kernel⟩
theorem hdX11_mean : yX11_mean.cls = RX11 ∧ yX11_mean.cls ≠ "java/lang/invoke/MethodHandle" ∧ yX11_mean.cls ≠ "java/lang/invoke/VarHandle" ∧ (parseMethodDescriptor yX11_mean.desc).map (fun d => d.parameters.length) = some 1 := ⟨rfl, by decide +kernel, by decide +kernel, by decide +kernel⟩
theorem hdX11_curve : yX11_curve.cls = RX11 ∧ yX11_curve.cls ≠ "java/lang/invoke/MethodHandle" ∧ yX11_curve.cls ≠ "java/lang/invoke/VarHandle" ∧ (parseMethodDescriptor yX11_curve.desc).map (fun d => d.parameters.length) = some 1 := ⟨rfl, by decide +kernel, by decide +kernel, by decide +kernel⟩
theorem hdX11_skipped : yX11_skipped.cls = RX11 ∧ yX11_skipped.cls ≠ "java/lang/invoke/MethodHandle" ∧ yX11_skipped.cls ≠ "java/lang/invoke/VarHandle" ∧ (parseMethodDescriptor yX11_skipped.desc).map (fun d => d.parameters.length) = some 1 := ⟨rfl, by decide +kernel, by decide +kernel, by decide +kernel⟩
theorem hdX11_stayOrGo : yX11_stayOrGo.cls = RX11 ∧ yX11_stayOrGo.cls ≠ "java/lang/invoke/MethodHandle" ∧ yX11_stayOrGo.cls ≠ "java/lang/invoke/VarHandle" ∧ (parseMethodDescriptor yX11_stayOrGo.desc).map (fun d => d.parameters.length) = some 1 := ⟨rfl, by decide +kernel, by decide +kernel, by decide +kernel⟩
theorem hdX11_judge : yX11_judge.cls = RX11 ∧ yX11_judge.cls ≠ "java/lang/invoke/MethodHandle" ∧ yX11_judge.cls ≠ "java/lang/invoke/VarHandle" ∧ (parseMethodDescriptor yX11_judge.desc).map (fun d => d.parameters.length) = some 1 := ⟨rfl, by decide +kernel, by decide +kernel, by decide +kernel⟩
theorem hdX11_drawBelow : yX11_drawBelow.cls = RX11 ∧ yX11_drawBelow.cls ≠ "java/lang/invoke/MethodHandle" ∧ yX11_drawBelow.cls ≠ "java/lang/invoke/VarHandle" ∧ (parseMethodDescriptor yX11_drawBelow.desc).map (fun d => d.parameters.length) = some 1 := ⟨rfl, by decide +kernel, by decide +kernel, by decide +kernel⟩
theorem hdX11_seeds : yX11_seeds.cls = RX11 ∧ yX11_seeds.cls ≠ "java/lang/invoke/MethodHandle" ∧ yX11_seeds.cls ≠ "java/lang/invoke/VarHandle" ∧ (parseMethodDescriptor yX11_seeds.desc).map (fun d => d.parameters.length) = some 3 := ⟨rfl, by decide +kernel, by decide +kernel, by decide +kernel⟩
theorem hdX11_count : yX11_count.cls = RX11 ∧ yX11_count.cls ≠ "java/lang/invoke/MethodHandle" ∧ yX11_count.cls ≠ "java/lang/invoke/VarHandle" ∧ (parseMethodDescriptor yX11_count.desc).map (fun d => d.parameters.length) = some 1 := ⟨rfl, by decide +kernel, by decide +kernel, by decide +kernel⟩
theorem hdX11_keep : yX11_keep.cls = RX11 ∧ yX11_keep.cls ≠ "java/lang/invoke/MethodHandle" ∧ yX11_keep.cls ≠ "java/lang/invoke/VarHandle" ∧ (parseMethodDescriptor yX11_keep.desc).map (fun d => d.parameters.length) = some 4 := ⟨rfl, by decide +kernel, by decide +kernel, by decide +kernel⟩
theorem hdX11_narrowed : yX11_narrowed.cls ≠ "java/lang/invoke/MethodHandle" ∧ yX11_narrowed.cls ≠ "java/lang/invoke/VarHandle" ∧ (parseMethodDescriptor yX11_narrowed.desc).map (fun d => d.parameters.length) = some 2 := ⟨by decide +kernel, by decide +kernel, by decide +kernel⟩
theorem hdX11_row : yX11_row.cls = RX11 ∧ yX11_row.cls ≠ "java/lang/invoke/MethodHandle" ∧ yX11_row.cls ≠ "java/lang/invoke/VarHandle" ∧ (parseMethodDescriptor yX11_row.desc).map (fun d => d.parameters.length) = some 3 := ⟨rfl, by decide +kernel, by decide +kernel, by decide +kernel⟩
theorem hdX11_put : yX11_put.cls = RX11 ∧ yX11_put.cls ≠ "java/lang/invoke/MethodHandle" ∧ yX11_put.cls ≠ "java/lang/invoke/VarHandle" ∧ (parseMethodDescriptor yX11_put.desc).map (fun d => d.parameters.length) = some 3 := ⟨rfl, by decide +kernel, by decide +kernel, by decide +kernel⟩
theorem hdX11_element : yX11_element.cls = RX11 ∧ yX11_element.cls ≠ "java/lang/invoke/MethodHandle" ∧ yX11_element.cls ≠ "java/lang/invoke/VarHandle" ∧ (parseMethodDescriptor yX11_element.desc).map (fun d => d.parameters.length) = some 2 := ⟨rfl, by decide +kernel, by decide +kernel, by decide +kernel⟩
theorem hdX11_copy : yX11_copy.cls = RX11 ∧ yX11_copy.cls ≠ "java/lang/invoke/MethodHandle" ∧ yX11_copy.cls ≠ "java/lang/invoke/VarHandle" ∧ (parseMethodDescriptor yX11_copy.desc).map (fun d => d.parameters.length) = some 5 := ⟨rfl, by decide +kernel, by decide +kernel, by decide +kernel⟩
theorem hdX11_costOf : yX11_costOf.cls ≠ "java/lang/invoke/MethodHandle" ∧ yX11_costOf.cls ≠ "java/lang/invoke/VarHandle" ∧ (parseMethodDescriptor yX11_costOf.desc).map (fun d => d.parameters.length) = some 2 := ⟨by decide +kernel, by decide +kernel, by decide +kernel⟩
theorem hdX11_cost : yX11_cost.cls = RX11 ∧ yX11_cost.cls ≠ "java/lang/invoke/MethodHandle" ∧ yX11_cost.cls ≠ "java/lang/invoke/VarHandle" ∧ (parseMethodDescriptor yX11_cost.desc).map (fun d => d.parameters.length) = some 1 := ⟨rfl, by decide +kernel, by decide +kernel, by decide +kernel⟩
theorem hdX11_toss : yX11_toss.cls = RX11 ∧ yX11_toss.cls ≠ "java/lang/invoke/MethodHandle" ∧ yX11_toss.cls ≠ "java/lang/invoke/VarHandle" ∧ (parseMethodDescriptor yX11_toss.desc).map (fun d => d.parameters.length) = some 1 := ⟨rfl, by decide +kernel, by decide +kernel, by decide +kernel⟩
theorem rX10_shelfAt {a1 : Int32} {s0 s1 : St} {n : Nat} (h : mX10_shelfAt a1 s0 = some (n, s1)) : kd n = 3 := by
  have h3 : ∀ j, j < 8 → kd (10 + j) = 3 := by decide +kernel
  unfold mX10_shelfAt at h
  split at h
  · cases h; rfl
  · split at h
    · cases h; rfl
    · unfold ldR at h
      split at h
      · cases h
      · rename_i hi
        cases h
        exact h3 _ (Nat.not_le.mp (fun q => hi (Or.inr q)))
end
section
set_option maxRecDepth 100000 in
set_option maxHeartbeats 4000000 in
theorem qX10_isCell (l : Launch) (g : G) (hg : gOK g) {a0 : Int64}  {s0 σe : St} {v : Int32} (h : mX10_isCell a0 s0 = some (v, σe)) : Mc l g yX10_isCell cX10_isCell 2 (some .boolean) { frames := 0, cells := 0, slots := 0, locals := 0 } [.long a0] s0 (some (.int v)) σe := by
  refine k_enter hg pnRX10 rfl (Nat.le_of_ble_eq_true rfl) ?_
  intro WK C
  unfold mX10_isCell at h
  show WK 0 [(0, .long a0)] [] s0
  refine k_lload_n C (dk dX10_isCell_0 0 rfl) rfl 0 rfl ?_
  refine k_lconst (v := (0 : Int64)) C (dk dX10_isCell_0 1 rfl) (by decide) ?_
  refine k_lcmp C (dk dX10_isCell_0 2 rfl) ?_
  refine k_if_lt (tgt := 18) C (dk dX10_isCell_0 3 rfl) (by decide) h (fun h => ?_) (fun h => ?_)
  ·
    refine k_iconst (v := (0 : Int32)) C (dk dX10_isCell_0 10 rfl) (by decide) ?_
    exact k_zret C (dk dX10_isCell_0 11 rfl) h
  ·
    refine k_lload_n C (dk dX10_isCell_0 4 rfl) rfl 0 rfl ?_
    refine k_ldc2 (v := (36 : Int64)) C (dk dX10_isCell_0 5 rfl) (iW5 _ (List.mem_of_getElem? (i := 22) rfl)) ?_
    refine k_lcmp C (dk dX10_isCell_0 6 rfl) ?_
    refine k_if_ge (tgt := 18) C (dk dX10_isCell_0 7 rfl) (by decide) h (fun h => ?_) (fun h => ?_)
    ·
      refine k_iconst (v := (0 : Int32)) C (dk dX10_isCell_0 10 rfl) (by decide) ?_
      exact k_zret C (dk dX10_isCell_0 11 rfl) h
    ·
      refine k_iconst (v := (1 : Int32)) C (dk dX10_isCell_0 8 rfl) (by decide) ?_
      refine k_goto (tgt := 19) C (dk dX10_isCell_0 9 rfl) (by decide) ?_
      exact k_zret C (dk dX10_isCell_0 11 rfl) h
set_option maxRecDepth 100000 in
set_option maxHeartbeats 4000000 in
theorem qX2_heightOf (l : Launch) (g : G) (hg : gOK g) {a0 : Int32} {a1 : Int32}  {s0 σe : St} {v : Int32} (h : mX2_heightOf a0 a1 s0 = some (v, σe)) : Mc l g yX2_heightOf cX2_heightOf 2 (some .int) { frames := 0, cells := 0, slots := 0, locals := 0 } [.int a0, .int a1] s0 (some (.int v)) σe := by
  refine k_enter hg pnRX2 rfl (Nat.le_of_ble_eq_true rfl) ?_
  intro WK C
  unfold mX2_heightOf at h
  show WK 0 [(0, .int a0), (1, .int a1)] [] s0
  refine k_iload_n C (dk dX2_heightOf_0 0 rfl) rfl 0 rfl ?_
  by_cases e0 : a0 = (2 : Int32)
  · replace h := (if_pos e0).symm.trans h
    refine k_tsIn (q := (2 : Int32)) (tgt := 36) C (dk dX2_heightOf_0 1 rfl) (by decide) (by decide) rfl (by decide) e0 ?_
    refine k_iconst (v := (2 : Int32)) C (dk dX2_heightOf_0 2 rfl) (by decide) ?_
    exact k_iret C (dk dX2_heightOf_0 3 rfl) h
  replace h := (if_neg e0).symm.trans h
  by_cases e1 : a0 = (3 : Int32)
  · replace h := (if_pos e1).symm.trans h
    refine k_tsIn (q := (3 : Int32)) (tgt := 38) C (dk dX2_heightOf_0 1 rfl) (by decide) (by decide) rfl (by decide) e1 ?_
    refine k_iconst (v := (2 : Int32)) C (dk dX2_heightOf_0 4 rfl) (by decide) ?_
    refine k_iload_n C (dk dX2_heightOf_0 5 rfl) rfl 1 rfl ?_
    refine k_iadd C (dk dX2_heightOf_0 6 rfl) ?_
    exact k_iret C (dk dX2_heightOf_0 7 rfl) h
  replace h := (if_neg e1).symm.trans h
  by_cases e2 : a0 = (4 : Int32)
  · replace h := (if_pos e2).symm.trans h
    refine k_tsIn (q := (4 : Int32)) (tgt := 42) C (dk dX2_heightOf_0 1 rfl) (by decide) (by decide) rfl (by decide) e2 ?_
    refine k_iconst (v := (2 : Int32)) C (dk dX2_heightOf_0 8 rfl) (by decide) ?_
    refine k_iload_n C (dk dX2_heightOf_0 9 rfl) rfl 1 rfl ?_
    refine k_iadd C (dk dX2_heightOf_0 10 rfl) ?_
    refine k_iconst (v := (2 : Int32)) C (dk dX2_heightOf_0 11 rfl) (by decide) ?_
    refine k_idiv C (dk dX2_heightOf_0 12 rfl) (by decide) ?_
    exact k_iret C (dk dX2_heightOf_0 13 rfl) h
  replace h := (if_neg e2).symm.trans h
  by_cases e4 : a0 = (6 : Int32)
  · replace h := (if_pos e4).symm.trans h
    refine k_tsIn (q := (6 : Int32)) (tgt := 48) C (dk dX2_heightOf_0 1 rfl) (by decide) (by decide) rfl (by decide) e4 ?_
    refine k_iconst (v := (1 : Int32)) C (dk dX2_heightOf_0 14 rfl) (by decide) ?_
    exact k_iret C (dk dX2_heightOf_0 15 rfl) h
  replace h := (if_neg e4).symm.trans h
  by_cases f5 : a0 = (5 : Int32)
  · refine k_tsIn (q := (5 : Int32)) (tgt := 50) C (dk dX2_heightOf_0 1 rfl) (by decide) (by decide) rfl (by decide) f5 ?_
    refine k_iconst (v := (0 : Int32)) C (dk dX2_heightOf_0 16 rfl) (by decide) ?_
    exact k_iret C (dk dX2_heightOf_0 17 rfl) h
  refine k_tsOut (tgt := 50) C (dk dX2_heightOf_0 1 rfl) (by have n0 : a0.toInt ≠ 2 := fun q => e0 (Int32.toInt_inj.mp (q.trans (by decide))); have n1 : a0.toInt ≠ 3 := fun q => e1 (Int32.toInt_inj.mp (q.trans (by decide))); have n2 : a0.toInt ≠ 4 := fun q => e2 (Int32.toInt_inj.mp (q.trans (by decide))); have n3 : a0.toInt ≠ 5 := fun q => f5 (Int32.toInt_inj.mp (q.trans (by decide))); have n4 : a0.toInt ≠ 6 := fun q => e4 (Int32.toInt_inj.mp (q.trans (by decide))); omega) (by decide) ?_
  refine k_iconst (v := (0 : Int32)) C (dk dX2_heightOf_0 16 rfl) (by decide) ?_
  exact k_iret C (dk dX2_heightOf_0 17 rfl) h
set_option maxRecDepth 100000 in
set_option maxHeartbeats 4000000 in
theorem qX3_heightAt (l : Launch) (g : G) (hg : gOK g) {o0 : Nat} {a1 : Int32} (ho0 : kd o0 = 1) {s0 σe : St} {v : Int32} (h : mX3_heightAt o0 a1 s0 = some (v, σe)) : Mc l g yX3_heightAt cX3_heightAt 2 (some .int) { frames := 1, cells := 0, slots := 0, locals := 21 } [.ref (g.2.2 o0), .int a1] s0 (some (.int v)) σe := by
  refine k_enter hg pnRX3 rfl (Nat.le_of_ble_eq_true rfl) ?_
  intro WK C
  unfold mX3_heightAt at h
  show WK 0 [(0, .ref (g.2.2 o0)), (1, .int a1)] [] s0
  refine k_iload_n C (dk dX3_heightAt_0 0 rfl) rfl 1 rfl ?_
  refine k_i2l C (dk dX3_heightAt_0 1 rfl) ?_
  refine cl2_k h (fun x2 s1 hc h => ?_)
  refine k_cn (As := [.long a1.toInt64]) (st := []) C (qX10_isCell l g hg hc) (iW5 _ (List.mem_of_getElem? (i := 21) rfl)) rfl rfl (List.mem_of_getElem? (i := 1) rfl) (iW5 _ (List.mem_of_getElem? (i := 20) rfl)) (iW0 _ (List.mem_of_getElem? (i := 2) rfl)) hdX10_isCell (by decide) rfl rfl (Nat.le_of_ble_eq_true rfl) (dk dX3_heightAt_0 2 rfl) ?_
  refine k_if_eq (tgt := 26) C (dk dX3_heightAt_0 3 rfl) (by decide) h (fun h => ?_) (fun h => ?_)
  ·
    refine k_iconst (v := (0 : Int32)) C (dk dX3_heightAt_0 14 rfl) (by decide) ?_
    exact k_iret C (dk dX3_heightAt_0 15 rfl) h
  ·
    refine k_aload_n C (dk dX3_heightAt_0 4 rfl) rfl 0 rfl ?_
    refine k_getR (q := (o0 + 3)) (D := RX3) (T := TX3) (N := 10) (ci := 1) (k := 0) C iCX3 ho0 (by decide) rfl (by decide) (iW1 _ (List.mem_of_getElem? (i := 10) rfl)) rfl (dk dX3_heightAt_0 5 rfl) ?_
    refine k_iload_n C (dk dX3_heightAt_0 6 rfl) rfl 1 rfl ?_
    refine k_iald C (kd_L3 ho0) (ln_L3 ho0) (dk dX3_heightAt_0 7 rfl) h (fun x3 h => ?_)
    refine k_aload_n C (dk dX3_heightAt_0 8 rfl) rfl 0 rfl ?_
    refine k_getR (q := (o0 + 6)) (D := RX3) (T := TX3) (N := 10) (ci := 1) (k := 1) C iCX3 ho0 (by decide) rfl (by decide) (iW1 _ (List.mem_of_getElem? (i := 11) rfl)) rfl (dk dX3_heightAt_0 9 rfl) ?_
    refine k_iload_n C (dk dX3_heightAt_0 10 rfl) rfl 1 rfl ?_
    refine k_iald C (kd_L6 ho0) (ln_L6 ho0) (dk dX3_heightAt_0 11 rfl) h (fun x4 h => ?_)
    refine cl2_k h (fun x6 s5 hc h => ?_)
    refine k_cs (As := [.int x3, .int x4]) (st := []) C (qX2_heightOf l g hg hc) (iW7 _ (List.mem_of_getElem? (i := 27) rfl)) (iW7 _ (List.mem_of_getElem? (i := 28) rfl)) (iW5 _ (List.mem_of_getElem? (i := 18) rfl)) (iW7 _ (List.mem_of_getElem? (i := 29) rfl)) rfl rfl hdX2_heightOf (by decide) rfl rfl (Nat.le_of_ble_eq_true rfl) (dk dX3_heightAt_0 12 rfl) ?_
    refine k_goto (tgt := 27) C (dk dX3_heightAt_0 13 rfl) (by decide) ?_
    exact k_iret C (dk dX3_heightAt_0 15 rfl) h
set_option maxRecDepth 100000 in
set_option maxHeartbeats 4000000 in
theorem qX7_apart (l : Launch) (g : G) (hg : gOK g) {a0 : Int32} {a1 : Int32}  {s0 σe : St} {v : Int32} (h : mX7_apart a0 a1 s0 = some (v, σe)) : Mc l g yX7_apart cX7_apart 2 (some .int) { frames := 1, cells := 0, slots := 0, locals := 24 } [.int a0, .int a1] s0 (some (.int v)) σe := by
  refine k_enter hg pnRX7 rfl (Nat.le_of_ble_eq_true rfl) ?_
  intro WK C
  unfold mX7_apart at h
  show WK 0 [(0, .int a0), (1, .int a1)] [] s0
  refine k_iload_n C (dk dX7_apart_0 0 rfl) rfl 0 rfl ?_
  refine k_bipush (v := (6 : Int32)) C (dk dX7_apart_0 1 rfl) (by decide) ?_
  refine k_idiv C (dk dX7_apart_0 2 rfl) (by decide) ?_
  refine k_iload_n C (dk dX7_apart_0 3 rfl) rfl 1 rfl ?_
  refine k_bipush (v := (6 : Int32)) C (dk dX7_apart_0 4 rfl) (by decide) ?_
  refine k_idiv C (dk dX7_apart_0 5 rfl) (by decide) ?_
  refine k_isub C (dk dX7_apart_0 6 rfl) ?_
  refine k_mabs C (iW7 _ (List.mem_of_getElem? (i := 22) rfl)) (iW7 _ (List.mem_of_getElem? (i := 16) rfl)) (iW7 _ (List.mem_of_getElem? (i := 17) rfl)) (iW7 _ (List.mem_of_getElem? (i := 18) rfl)) (Nat.le_of_ble_eq_true rfl) (Nat.le_of_ble_eq_true rfl) (dk dX7_apart_0 7 rfl) ?_
  refine k_iload_n C (dk dX7_apart_0 8 rfl) rfl 0 rfl ?_
  refine k_bipush (v := (6 : Int32)) C (dk dX7_apart_0 9 rfl) (by decide) ?_
  refine k_irem C (dk dX7_apart_0 10 rfl) (by decide) ?_
  refine k_iload_n C (dk dX7_apart_0 11 rfl) rfl 1 rfl ?_
  refine k_bipush (v := (6 : Int32)) C (dk dX7_apart_0 12 rfl) (by decide) ?_
  refine k_irem C (dk dX7_apart_0 13 rfl) (by decide) ?_
  refine k_isub C (dk dX7_apart_0 14 rfl) ?_
  refine k_mabs C (iW7 _ (List.mem_of_getElem? (i := 22) rfl)) (iW7 _ (List.mem_of_getElem? (i := 16) rfl)) (iW7 _ (List.mem_of_getElem? (i := 17) rfl)) (iW7 _ (List.mem_of_getElem? (i := 18) rfl)) (Nat.le_of_ble_eq_true rfl) (Nat.le_of_ble_eq_true rfl) (dk dX7_apart_0 15 rfl) ?_
  refine k_iadd C (dk dX7_apart_0 16 rfl) ?_
  exact k_iret C (dk dX7_apart_0 17 rfl) h
set_option maxRecDepth 100000 in
set_option maxHeartbeats 4000000 in
theorem qX0_bound (l : Launch) (g : G) (hg : gOK g) {a1 : Int32} {a2 : Int32}  {s0 σe : St} (h : mX0_bound a1 a2 s0 = some σe) : Mc l g yX0_bound cX0_bound 8 none { frames := 0, cells := 0, slots := 0, locals := 0 } [.ref (g.2.2 28), .int a1, .int a2] s0 none σe := by
  refine k_enter hg pnRX0 rfl (Nat.le_of_ble_eq_true rfl) ?_
  intro WK C
  unfold mX0_bound at h
  show WK 0 [(0, .ref (g.2.2 28)), (1, .int a1), (2, .int a2)] [] s0
  refine k_iconst (v := (0 : Int32)) C (dk dX0_bound_0 0 rfl) (by decide) ?_
  refine k_istore_n (lv' := [(3, .int (0 : Int32)), (0, .ref (g.2.2 28)), (1, .int a1), (2, .int a2)]) C (dk dX0_bound_0 1 rfl) rfl (by decide) rfl ?_
  refine kl_L (P := (fun J2 => ∀ (y1 : Int32) (s2 : St), J2 y1 s2 = some σe → WK 2 [(0, .ref (g.2.2 28)), (1, .int a1), (2, .int a2), (3, .int y1)] [] s2)) h (fun _ _ h => nomatch h) (fun J2 hJ2 y1 s2 h => ?_) (fun J2 hJ2 h => ?_)
  ·
    unfold mX0_bound_2 at h
    refine k_iload_n C (dk dX0_bound_0 2 rfl) rfl 3 rfl ?_
    refine k_bipush (v := (36 : Int32)) C (dk dX0_bound_0 3 rfl) (by decide) ?_
    refine k_icmp_ge (tgt := 76) C (dk dX0_bound_0 4 rfl) (by decide) h (fun h => ?_) (fun h => ?_)
    ·
      exact k_vret C (dk dX0_bound_1 10 rfl) h
    ·
      refine k_lconst (v := (0 : Int64)) C (dk dX0_bound_0 5 rfl) (by decide) ?_
      refine k_lstore (lv' := [(4, .long (0 : Int64)), (0, .ref (g.2.2 28)), (1, .int a1), (2, .int a2), (3, .int y1)]) C (dk dX0_bound_0 6 rfl) (by decide) rfl ?_
      refine k_iconst (v := (0 : Int32)) C (dk dX0_bound_0 7 rfl) (by decide) ?_
      refine k_istore (lv' := [(6, .int (0 : Int32)), (4, .long (0 : Int64)), (0, .ref (g.2.2 28)), (1, .int a1), (2, .int a2), (3, .int y1)]) C (dk dX0_bound_0 8 rfl) (by decide) rfl ?_
      refine kl_L (P := (fun J14 => ∀ (y3 : Int64) (y4 : Int32) (s5 : St), J14 y3 y4 s5 = some σe → WK 14 [(0, .ref (g.2.2 28)), (1, .int a1), (2, .int a2), (3, .int y1), (4, .long y3), (6, .int y4)] [] s5)) h (fun _ _ _ h => nomatch h) (fun J14 hJ14 y3 y4 s5 h => ?_) (fun J14 hJ14 h => ?_)
      ·
        unfold mX0_bound_14 at h
        refine k_iload C (dk dX0_bound_0 9 rfl) 5 rfl ?_
        refine k_bipush (v := (36 : Int32)) C (dk dX0_bound_0 10 rfl) (by decide) ?_
        refine k_icmp_ge (tgt := 62) C (dk dX0_bound_0 11 rfl) (by decide) h (fun h => ?_) (fun h => ?_)
        ·
          refine k_aload_n C (dk dX0_bound_1 3 rfl) rfl 0 rfl ?_
          refine k_getR (q := 31) (D := RX0) (T := TX0) (N := 9) (ci := 0) (k := 2) C iCX0 rfl (by decide) rfl (by decide) (iW1 _ (List.mem_of_getElem? (i := 25) rfl)) rfl (dk dX0_bound_1 4 rfl) ?_
          refine k_iload_n C (dk dX0_bound_1 5 rfl) rfl 3 rfl ?_
          refine k_lload C (dk dX0_bound_1 6 rfl) 4 rfl ?_
          refine k_last C rfl rfl (dk dX0_bound_1 7 rfl) h (fun s6 h => ?_)
          refine k_iinc (lv' := [(3, .int (y1 + 1)), (0, .ref (g.2.2 28)), (1, .int a1), (2, .int a2), (4, .long y3), (6, .int y4)]) C (dk dX0_bound_1 8 rfl) (j := 3) rfl rfl (by decide) rfl ?_
          refine k_goto (tgt := 2) C (dk dX0_bound_1 9 rfl) (by decide) ?_
          refine k_sub C [1, 2, 3, 0] rfl ?_
          exact hJ2 _ _ h
        ·
          refine k_aload_n C (dk dX0_bound_0 12 rfl) rfl 0 rfl ?_
          refine k_getR (q := 30) (D := RX0) (T := TX0) (N := 9) (ci := 0) (k := 1) C iCX0 rfl (by decide) rfl (by decide) (iW1 _ (List.mem_of_getElem? (i := 24) rfl)) rfl (dk dX0_bound_0 13 rfl) ?_
          refine k_iload_n C (dk dX0_bound_0 14 rfl) rfl 3 rfl ?_
          refine k_bipush (v := (36 : Int32)) C (dk dX0_bound_0 15 rfl) (by decide) ?_
          refine k_imul C (dk dX0_bound_0 16 rfl) ?_
          refine k_iload C (dk dX0_bound_0 17 rfl) 5 rfl ?_
          refine k_iadd C (dk dX0_bound_0 18 rfl) ?_
          refine k_iald C rfl rfl (dk dX0_bound_0 19 rfl) h (fun x7 h => ?_)
          refine k_istore (lv' := [(7, .int x7), (0, .ref (g.2.2 28)), (1, .int a1), (2, .int a2), (3, .int y1), (4, .long y3), (6, .int y4)]) C (dk dX0_bound_0 20 rfl) (by decide) rfl ?_
          refine k_iload C (dk dX0_bound_0 21 rfl) 0 rfl ?_
          refine k_iload_n C (dk dX0_bound_0 22 rfl) rfl 2 rfl ?_
          refine kl_J (P := (fun J56 => ∀ (y8 : Int64) (y9 : Int32) (s10 : St), J56 y8 y9 s10 = some σe → WK 56 [(0, .ref (g.2.2 28)), (1, .int a1), (2, .int a2), (3, .int y1), (4, .long y8), (6, .int y9)] [] s10)) h (fun y8 y9 s10 h => ?_) (fun J56 hJ56 h => ?_)
          ·
            unfold mX0_bound_56 at h
            refine k_iinc (lv' := [(6, .int (y9 + 1)), (0, .ref (g.2.2 28)), (1, .int a1), (2, .int a2), (3, .int y1), (4, .long y8)]) C (dk dX0_bound_1 1 rfl) (j := 5) rfl rfl (by decide) rfl ?_
            refine k_goto (tgt := 14) C (dk dX0_bound_1 2 rfl) (by decide) ?_
            refine k_sub C [1, 2, 3, 4, 5, 0] rfl ?_
            exact hJ14 _ _ _ h
          ·
            refine k_icmp_lt (tgt := 56) C (dk dX0_bound_0 23 rfl) (by decide) h (fun h => ?_) (fun h => ?_)
            ·
              refine k_sub C [1, 2, 3, 4, 5, 6] rfl ?_
              exact hJ56 _ _ _ h
            ·
              refine k_iload C (dk dX0_bound_0 24 rfl) 0 rfl ?_
              refine k_iload_n C (dk dX0_bound_0 25 rfl) rfl 3 rfl ?_
              refine k_icmp_gt (tgt := 56) C (dk dX0_bound_0 26 rfl) (by decide) h (fun h => ?_) (fun h => ?_)
              ·
                refine k_sub C [1, 2, 3, 4, 5, 6] rfl ?_
                exact hJ56 _ _ _ h
              ·
                refine k_lload C (dk dX0_bound_0 27 rfl) 5 rfl ?_
                refine k_lconst (v := (1 : Int64)) C (dk dX0_bound_0 28 rfl) (by decide) ?_
                refine k_iload C (dk dX0_bound_0 29 rfl) 6 rfl ?_
                refine k_lshl C (dk dX0_bound_0 30 rfl) ?_
                refine k_lor C (dk dX0_bound_0 31 rfl) ?_
                refine nmL h (fun x11 h => ?_)
                refine k_lstore (lv' := [(4, .long x11), (7, .int x7), (0, .ref (g.2.2 28)), (1, .int a1), (2, .int a2), (3, .int y1), (6, .int y4)]) C (dk dX0_bound_1 0 rfl) (by decide) rfl ?_
                refine k_sub C [2, 3, 4, 5, 0, 6] rfl ?_
                exact hJ56 _ _ _ h
      ·
        refine k_sub C [2, 3, 4, 5, 1, 0] rfl ?_
        exact hJ14 _ _ _ h
  ·
    refine k_sub C [1, 2, 3, 0] rfl ?_
    exact hJ2 _ _ h
set_option maxRecDepth 100000 in
set_option maxHeartbeats 4000000 in
theorem qX2_isOpen (l : Launch) (g : G) (hg : gOK g) {a0 : Int32} {a1 : Int32} {a2 : Int32}  {s0 σe : St} {v : Int32} (h : mX2_isOpen a0 a1 a2 s0 = some (v, σe)) : Mc l g yX2_isOpen cX2_isOpen 3 (some .boolean) { frames := 0, cells := 0, slots := 0, locals := 0 } [.int a0, .int a1, .int a2] s0 (some (.int v)) σe := by
  refine k_enter hg pnRX2 rfl (Nat.le_of_ble_eq_true rfl) ?_
  intro WK C
  unfold mX2_isOpen at h
  show WK 0 [(0, .int a0), (1, .int a1), (2, .int a2)] [] s0
  refine k_iload_n C (dk dX2_isOpen_0 0 rfl) rfl 0 rfl ?_
  by_cases e0 : a0 = (3 : Int32)
  · replace h := (if_pos e0).symm.trans h
    refine k_tsIn (q := (3 : Int32)) (tgt := 28) C (dk dX2_isOpen_0 1 rfl) (by decide) (by decide) rfl (by decide) e0 ?_
    refine k_iload_n C (dk dX2_isOpen_0 2 rfl) rfl 2 rfl ?_
    refine k_if_ne (tgt := 36) C (dk dX2_isOpen_0 3 rfl) (by decide) h (fun h => ?_) (fun h => ?_)
    ·
      refine k_iconst (v := (0 : Int32)) C (dk dX2_isOpen_0 6 rfl) (by decide) ?_
      exact k_zret C (dk dX2_isOpen_0 7 rfl) h
    ·
      refine k_iconst (v := (1 : Int32)) C (dk dX2_isOpen_0 4 rfl) (by decide) ?_
      refine k_goto (tgt := 37) C (dk dX2_isOpen_0 5 rfl) (by decide) ?_
      exact k_zret C (dk dX2_isOpen_0 7 rfl) h
  replace h := (if_neg e0).symm.trans h
  by_cases e1 : a0 = (4 : Int32)
  · replace h := (if_pos e1).symm.trans h
    refine k_tsIn (q := (4 : Int32)) (tgt := 38) C (dk dX2_isOpen_0 1 rfl) (by decide) (by decide) rfl (by decide) e1 ?_
    refine k_iload_n C (dk dX2_isOpen_0 8 rfl) rfl 1 rfl ?_
    refine k_iconst (v := (4 : Int32)) C (dk dX2_isOpen_0 9 rfl) (by decide) ?_
    refine kl_J (P := (fun J47 => ∀ (s1 : St), J47 s1 = some (v, σe) → WK 47 [] [] s1)) h (fun s1 h => ?_) (fun J47 hJ47 h => ?_)
    ·
      unfold mX2_isOpen_47 at h
      refine k_iconst (v := (1 : Int32)) C (dk dX2_isOpen_0 13 rfl) (by decide) ?_
      refine k_goto (tgt := 52) C (dk dX2_isOpen_0 14 rfl) (by decide) ?_
      exact k_zret C (dk dX2_isOpen_0 16 rfl) h
    ·
      refine k_icmp_le (tgt := 47) C (dk dX2_isOpen_0 10 rfl) (by decide) h (fun h => ?_) (fun h => ?_)
      ·
        refine k_sub C [] rfl ?_
        exact hJ47 _ h
      ·
        refine k_iload_n C (dk dX2_isOpen_0 11 rfl) rfl 2 rfl ?_
        refine k_if_ne (tgt := 51) C (dk dX2_isOpen_0 12 rfl) (by decide) h (fun h => ?_) (fun h => ?_)
        ·
          refine k_iconst (v := (0 : Int32)) C (dk dX2_isOpen_0 15 rfl) (by decide) ?_
          exact k_zret C (dk dX2_isOpen_0 16 rfl) h
        ·
          refine k_sub C [] rfl ?_
          exact hJ47 _ h
  replace h := (if_neg e1).symm.trans h
  by_cases e2 : a0 = (5 : Int32)
  · replace h := (if_pos e2).symm.trans h
    refine k_tsIn (q := (5 : Int32)) (tgt := 53) C (dk dX2_isOpen_0 1 rfl) (by decide) (by decide) rfl (by decide) e2 ?_
    refine k_iload_n C (dk dX2_isOpen_0 17 rfl) rfl 2 rfl ?_
    refine k_iconst (v := (1 : Int32)) C (dk dX2_isOpen_0 18 rfl) (by decide) ?_
    refine k_icmp_ne (tgt := 62) C (dk dX2_isOpen_0 19 rfl) (by decide) h (fun h => ?_) (fun h => ?_)
    ·
      refine k_iconst (v := (0 : Int32)) C (dk dX2_isOpen_0 22 rfl) (by decide) ?_
      exact k_zret C (dk dX2_isOpen_0 23 rfl) h
    ·
      refine k_iconst (v := (1 : Int32)) C (dk dX2_isOpen_0 20 rfl) (by decide) ?_
      refine k_goto (tgt := 63) C (dk dX2_isOpen_0 21 rfl) (by decide) ?_
      exact k_zret C (dk dX2_isOpen_0 23 rfl) h
  replace h := (if_neg e2).symm.trans h
  refine k_tsOut (tgt := 64) C (dk dX2_isOpen_0 1 rfl) (by have n0 : a0.toInt ≠ 3 := fun q => e0 (Int32.toInt_inj.mp (q.trans (by decide))); have n1 : a0.toInt ≠ 4 := fun q => e1 (Int32.toInt_inj.mp (q.trans (by decide))); have n2 : a0.toInt ≠ 5 := fun q => e2 (Int32.toInt_inj.mp (q.trans (by decide))); omega) (by decide) ?_
  refine k_iconst (v := (1 : Int32)) C (dk dX2_isOpen_0 24 rfl) (by decide) ?_
  exact k_zret C (dk dX2_isOpen_0 25 rfl) h
set_option maxRecDepth 100000 in
set_option maxHeartbeats 4000000 in
theorem qX3_isOpen (l : Launch) (g : G) (hg : gOK g) {o0 : Nat} {a1 : Int32} (ho0 : kd o0 = 1) {s0 σe : St} {v : Int32} (h : mX3_isOpen o0 a1 s0 = some (v, σe)) : Mc l g yX3_isOpen cX3_isOpen 2 (some .boolean) { frames := 1, cells := 0, slots := 0, locals := 22 } [.ref (g.2.2 o0), .int a1] s0 (some (.int v)) σe := by
  refine k_enter hg pnRX3 rfl (Nat.le_of_ble_eq_true rfl) ?_
  intro WK C
  unfold mX3_isOpen at h
  show WK 0 [(0, .ref (g.2.2 o0)), (1, .int a1)] [] s0
  refine k_iload_n C (dk dX3_isOpen_0 0 rfl) rfl 1 rfl ?_
  refine k_i2l C (dk dX3_isOpen_0 1 rfl) ?_
  refine cl2_k h (fun x2 s1 hc h => ?_)
  refine k_cn (As := [.long a1.toInt64]) (st := []) C (qX10_isCell l g hg hc) (iW5 _ (List.mem_of_getElem? (i := 21) rfl)) rfl rfl (List.mem_of_getElem? (i := 1) rfl) (iW5 _ (List.mem_of_getElem? (i := 20) rfl)) (iW0 _ (List.mem_of_getElem? (i := 2) rfl)) hdX10_isCell (by decide) rfl rfl (Nat.le_of_ble_eq_true rfl) (dk dX3_isOpen_0 2 rfl) ?_
  refine k_if_eq (tgt := 34) C (dk dX3_isOpen_0 3 rfl) (by decide) h (fun h => ?_) (fun h => ?_)
  ·
    refine k_iconst (v := (0 : Int32)) C (dk dX3_isOpen_0 18 rfl) (by decide) ?_
    exact k_zret C (dk dX3_isOpen_0 19 rfl) h
  ·
    refine k_aload_n C (dk dX3_isOpen_0 4 rfl) rfl 0 rfl ?_
    refine k_getR (q := (o0 + 3)) (D := RX3) (T := TX3) (N := 10) (ci := 1) (k := 0) C iCX3 ho0 (by decide) rfl (by decide) (iW1 _ (List.mem_of_getElem? (i := 10) rfl)) rfl (dk dX3_isOpen_0 5 rfl) ?_
    refine k_iload_n C (dk dX3_isOpen_0 6 rfl) rfl 1 rfl ?_
    refine k_iald C (kd_L3 ho0) (ln_L3 ho0) (dk dX3_isOpen_0 7 rfl) h (fun x3 h => ?_)
    refine k_aload_n C (dk dX3_isOpen_0 8 rfl) rfl 0 rfl ?_
    refine k_getR (q := (o0 + 6)) (D := RX3) (T := TX3) (N := 10) (ci := 1) (k := 1) C iCX3 ho0 (by decide) rfl (by decide) (iW1 _ (List.mem_of_getElem? (i := 11) rfl)) rfl (dk dX3_isOpen_0 9 rfl) ?_
    refine k_iload_n C (dk dX3_isOpen_0 10 rfl) rfl 1 rfl ?_
    refine k_iald C (kd_L6 ho0) (ln_L6 ho0) (dk dX3_isOpen_0 11 rfl) h (fun x4 h => ?_)
    refine k_aload_n C (dk dX3_isOpen_0 12 rfl) rfl 0 rfl ?_
    refine k_getI (D := RX3) (T := TX3) (N := 10) (ci := 1) (k := 2) C iCX3 ho0 (by decide) rfl (by decide) (iW1 _ (List.mem_of_getElem? (i := 12) rfl)) rfl (dk dX3_isOpen_0 13 rfl) h (fun x5 h => ?_)
    refine cl2_k h (fun x7 s6 hc h => ?_)
    refine k_cs (As := [.int x3, .int x4, .int x5]) (st := []) C (qX2_isOpen l g hg hc) (iW6 _ (List.mem_of_getElem? (i := 4) rfl)) (iW6 _ (List.mem_of_getElem? (i := 5) rfl)) (iW5 _ (List.mem_of_getElem? (i := 18) rfl)) (iW6 _ (List.mem_of_getElem? (i := 6) rfl)) rfl rfl hdX2_isOpen (by decide) rfl rfl (Nat.le_of_ble_eq_true rfl) (dk dX3_isOpen_0 14 rfl) ?_
    refine k_if_eq (tgt := 34) C (dk dX3_isOpen_0 15 rfl) (by decide) h (fun h => ?_) (fun h => ?_)
    ·
      refine k_iconst (v := (0 : Int32)) C (dk dX3_isOpen_0 18 rfl) (by decide) ?_
      exact k_zret C (dk dX3_isOpen_0 19 rfl) h
    ·
      refine k_iconst (v := (1 : Int32)) C (dk dX3_isOpen_0 16 rfl) (by decide) ?_
      refine k_goto (tgt := 35) C (dk dX3_isOpen_0 17 rfl) (by decide) ?_
      exact k_zret C (dk dX3_isOpen_0 19 rfl) h
set_option maxRecDepth 100000 in
set_option maxHeartbeats 4000000 in
theorem qX7_bit (l : Launch) (g : G) (hg : gOK g) {a0 : Int32}  {s0 σe : St} {v : Int64} (h : mX7_bit a0 s0 = some (v, σe)) : Mc l g yX7_bit cX7_bit 1 (some .long) { frames := 0, cells := 0, slots := 0, locals := 0 } [.int a0] s0 (some (.long v)) σe := by
  refine k_enter hg pnRX7 rfl (Nat.le_of_ble_eq_true rfl) ?_
  intro WK C
  unfold mX7_bit at h
  show WK 0 [(0, .int a0)] [] s0
  refine k_iload_n C (dk dX7_bit_0 0 rfl) rfl 0 rfl ?_
  refine k_if_lt (tgt := 16) C (dk dX7_bit_0 1 rfl) (by decide) h (fun h => ?_) (fun h => ?_)
  ·
    refine k_lconst (v := (0 : Int64)) C (dk dX7_bit_0 9 rfl) (by decide) ?_
    exact k_lret C (dk dX7_bit_0 10 rfl) h
  ·
    refine k_iload_n C (dk dX7_bit_0 2 rfl) rfl 0 rfl ?_
    refine k_bipush (v := (36 : Int32)) C (dk dX7_bit_0 3 rfl) (by decide) ?_
    refine k_icmp_ge (tgt := 16) C (dk dX7_bit_0 4 rfl) (by decide) h (fun h => ?_) (fun h => ?_)
    ·
      refine k_lconst (v := (0 : Int64)) C (dk dX7_bit_0 9 rfl) (by decide) ?_
      exact k_lret C (dk dX7_bit_0 10 rfl) h
    ·
      refine k_lconst (v := (1 : Int64)) C (dk dX7_bit_0 5 rfl) (by decide) ?_
      refine k_iload_n C (dk dX7_bit_0 6 rfl) rfl 0 rfl ?_
      refine k_lshl C (dk dX7_bit_0 7 rfl) ?_
      refine k_goto (tgt := 17) C (dk dX7_bit_0 8 rfl) (by decide) ?_
      exact k_lret C (dk dX7_bit_0 10 rfl) h
set_option maxRecDepth 100000 in
set_option maxHeartbeats 4000000 in
theorem qX3_openCells (l : Launch) (g : G) (hg : gOK g) {o0 : Nat} (ho0 : kd o0 = 1) {s0 σe : St} {v : Int64} (h : mX3_openCells o0 s0 = some (v, σe)) : Mc l g yX3_openCells cX3_openCells 4 (some .long) { frames := 2, cells := 0, slots := 0, locals := 43 } [.ref (g.2.2 o0)] s0 (some (.long v)) σe := by
  refine k_enter hg pnRX3 rfl (Nat.le_of_ble_eq_true rfl) ?_
  intro WK C
  unfold mX3_openCells at h
  show WK 0 [(0, .ref (g.2.2 o0))] [] s0
  refine k_lconst (v := (0 : Int64)) C (dk dX3_openCells_0 0 rfl) (by decide) ?_
  refine k_lstore_n (lv' := [(1, .long (0 : Int64)), (0, .ref (g.2.2 o0))]) C (dk dX3_openCells_0 1 rfl) rfl (by decide) rfl ?_
  refine k_iconst (v := (0 : Int32)) C (dk dX3_openCells_0 2 rfl) (by decide) ?_
  refine k_istore_n (lv' := [(3, .int (0 : Int32)), (1, .long (0 : Int64)), (0, .ref (g.2.2 o0))]) C (dk dX3_openCells_0 3 rfl) rfl (by decide) rfl ?_
  refine kl_L (P := (fun J4 => ∀ (y1 : Int64) (y2 : Int32) (s3 : St), J4 y1 y2 s3 = some (v, σe) → WK 4 [(0, .ref (g.2.2 o0)), (1, .long y1), (3, .int y2)] [] s3)) h (fun _ _ _ h => nomatch h) (fun J4 hJ4 y1 y2 s3 h => ?_) (fun J4 hJ4 h => ?_)
  ·
    unfold mX3_openCells_4 at h
    refine k_iload_n C (dk dX3_openCells_0 4 rfl) rfl 2 rfl ?_
    refine k_bipush (v := (36 : Int32)) C (dk dX3_openCells_0 5 rfl) (by decide) ?_
    refine k_icmp_ge (tgt := 31) C (dk dX3_openCells_0 6 rfl) (by decide) h (fun h => ?_) (fun h => ?_)
    ·
      refine k_lload_n C (dk dX3_openCells_0 18 rfl) rfl 1 rfl ?_
      exact k_lret C (dk dX3_openCells_0 19 rfl) h
    ·
      refine k_aload_n C (dk dX3_openCells_0 7 rfl) rfl 0 rfl ?_
      refine k_iload_n C (dk dX3_openCells_0 8 rfl) rfl 2 rfl ?_
      refine cl2_k h (fun x5 s4 hc h => ?_)
      refine k_cv (T := TX3) (N := 10) (ci := 1) (ob := o0) (As := [.int y2]) (st := []) C (qX3_isOpen l g hg ho0 hc) (iW7 _ (List.mem_of_getElem? (i := 6) rfl)) (iW6 _ (List.mem_of_getElem? (i := 1) rfl)) (iW6 _ (List.mem_of_getElem? (i := 2) rfl)) (iW0 _ (List.mem_of_getElem? (i := 15) rfl)) (iW6 _ (List.mem_of_getElem? (i := 3) rfl)) rfl rfl hdX3_isOpen (by decide) ho0 (by decide) rfl rfl rfl (Nat.le_of_ble_eq_true rfl) (dk dX3_openCells_0 9 rfl) ?_
      refine kl_J (P := (fun J25 => ∀ (y6 : Int64) (y7 : Int32) (s8 : St), J25 y6 y7 s8 = some (v, σe) → WK 25 [(0, .ref (g.2.2 o0)), (1, .long y6), (3, .int y7)] [] s8)) h (fun y6 y7 s8 h => ?_) (fun J25 hJ25 h => ?_)
      ·
        unfold mX3_openCells_25 at h
        refine k_iinc (lv' := [(3, .int (y7 + 1)), (0, .ref (g.2.2 o0)), (1, .long y6)]) C (dk dX3_openCells_0 16 rfl) (j := 2) rfl rfl (by decide) rfl ?_
        refine k_goto (tgt := 4) C (dk dX3_openCells_0 17 rfl) (by decide) ?_
        refine k_sub C [1, 2, 0] rfl ?_
        exact hJ4 _ _ _ h
      ·
        refine k_if_eq (tgt := 25) C (dk dX3_openCells_0 10 rfl) (by decide) h (fun h => ?_) (fun h => ?_)
        ·
          exact hJ25 _ _ _ h
        ·
          refine k_lload_n C (dk dX3_openCells_0 11 rfl) rfl 1 rfl ?_
          refine k_iload_n C (dk dX3_openCells_0 12 rfl) rfl 2 rfl ?_
          refine cl2_k h (fun x10 s9 hc h => ?_)
          refine k_cs (As := [.int y2]) (st := [.long y1]) C (qX7_bit l g hg hc) (iW14 _ (List.mem_of_getElem? (i := 14) rfl)) (iW14 _ (List.mem_of_getElem? (i := 15) rfl)) (iW7 _ (List.mem_of_getElem? (i := 4) rfl)) (iW14 _ (List.mem_of_getElem? (i := 16) rfl)) rfl rfl hdX7_bit (by decide) rfl rfl (Nat.le_of_ble_eq_true rfl) (dk dX3_openCells_0 13 rfl) ?_
          refine k_lor C (dk dX3_openCells_0 14 rfl) ?_
          refine nmL h (fun x11 h => ?_)
          refine k_lstore_n (lv' := [(1, .long x11), (0, .ref (g.2.2 o0)), (3, .int y2)]) C (dk dX3_openCells_0 15 rfl) rfl (by decide) rfl ?_
          refine k_sub C [1, 0, 2] rfl ?_
          exact hJ25 _ _ _ h
  ·
    refine k_sub C [2, 1, 0] rfl ?_
    exact hJ4 _ _ _ h
set_option maxRecDepth 100000 in
set_option maxHeartbeats 4000000 in
theorem qX7_has (l : Launch) (g : G) (hg : gOK g) {a0 : Int64} {a2 : Int32}  {s0 σe : St} {v : Int32} (h : mX7_has a0 a2 s0 = some (v, σe)) : Mc l g yX7_has cX7_has 3 (some .boolean) { frames := 1, cells := 0, slots := 0, locals := 20 } [.long a0, .int a2] s0 (some (.int v)) σe := by
  refine k_enter hg pnRX7 rfl (Nat.le_of_ble_eq_true rfl) ?_
  intro WK C
  unfold mX7_has at h
  show WK 0 [(0, .long a0), (2, .int a2)] [] s0
  refine k_lload_n C (dk dX7_has_0 0 rfl) rfl 0 rfl ?_
  refine k_iload_n C (dk dX7_has_0 1 rfl) rfl 1 rfl ?_
  refine cl2_k h (fun x2 s1 hc h => ?_)
  refine k_cs (As := [.int a2]) (st := [.long a0]) C (qX7_bit l g hg hc) (iW14 _ (List.mem_of_getElem? (i := 20) rfl)) (iW14 _ (List.mem_of_getElem? (i := 15) rfl)) (iW7 _ (List.mem_of_getElem? (i := 4) rfl)) (iW14 _ (List.mem_of_getElem? (i := 16) rfl)) rfl rfl hdX7_bit (by decide) rfl rfl (Nat.le_of_ble_eq_true rfl) (dk dX7_has_0 2 rfl) ?_
  refine k_land C (dk dX7_has_0 3 rfl) ?_
  refine k_lconst (v := (0 : Int64)) C (dk dX7_has_0 4 rfl) (by decide) ?_
  refine k_lcmp C (dk dX7_has_0 5 rfl) ?_
  refine k_if_eq (tgt := 15) C (dk dX7_has_0 6 rfl) (by decide) h (fun h => ?_) (fun h => ?_)
  ·
    refine k_iconst (v := (0 : Int32)) C (dk dX7_has_0 9 rfl) (by decide) ?_
    exact k_zret C (dk dX7_has_0 10 rfl) h
  ·
    refine k_iconst (v := (1 : Int32)) C (dk dX7_has_0 7 rfl) (by decide) ?_
    refine k_goto (tgt := 16) C (dk dX7_has_0 8 rfl) (by decide) ?_
    exact k_zret C (dk dX7_has_0 10 rfl) h
set_option maxRecDepth 100000 in
set_option maxHeartbeats 4000000 in
theorem qX0_admit (l : Launch) (g : G) (hg : gOK g) {a1 : Int64}  {s0 σe : St} (h : mX0_admit a1 s0 = some σe) : Mc l g yX0_admit cX0_admit 4 none { frames := 2, cells := 0, slots := 0, locals := 42 } [.ref (g.2.2 28), .long a1] s0 none σe := by
  refine k_enter hg pnRX0 rfl (Nat.le_of_ble_eq_true rfl) ?_
  intro WK C
  unfold mX0_admit at h
  show WK 0 [(0, .ref (g.2.2 28)), (1, .long a1)] [] s0
  refine k_iconst (v := (0 : Int32)) C (dk dX0_admit_0 0 rfl) (by decide) ?_
  refine k_istore_n (lv' := [(3, .int (0 : Int32)), (0, .ref (g.2.2 28)), (1, .long a1)]) C (dk dX0_admit_0 1 rfl) rfl (by decide) rfl ?_
  refine kl_L (P := (fun J2 => ∀ (y1 : Int32) (s2 : St), J2 y1 s2 = some σe → WK 2 [(0, .ref (g.2.2 28)), (1, .long a1), (3, .int y1)] [] s2)) h (fun _ _ h => nomatch h) (fun J2 hJ2 y1 s2 h => ?_) (fun J2 hJ2 h => ?_)
  ·
    unfold mX0_admit_2 at h
    refine k_iload_n C (dk dX0_admit_0 2 rfl) rfl 2 rfl ?_
    refine k_bipush (v := (36 : Int32)) C (dk dX0_admit_0 3 rfl) (by decide) ?_
    refine k_icmp_ge (tgt := 40) C (dk dX0_admit_0 4 rfl) (by decide) h (fun h => ?_) (fun h => ?_)
    ·
      exact k_vret C (dk dX0_admit_0 23 rfl) h
    ·
      refine k_aload_n C (dk dX0_admit_0 5 rfl) rfl 0 rfl ?_
      refine k_getR (q := 32) (D := RX0) (T := TX0) (N := 9) (ci := 0) (k := 3) C iCX0 rfl (by decide) rfl (by decide) (iW1 _ (List.mem_of_getElem? (i := 26) rfl)) rfl (dk dX0_admit_0 6 rfl) ?_
      refine k_iload_n C (dk dX0_admit_0 7 rfl) rfl 2 rfl ?_
      refine k_lload_n C (dk dX0_admit_0 8 rfl) rfl 1 rfl ?_
      refine k_iload_n C (dk dX0_admit_0 9 rfl) rfl 2 rfl ?_
      refine cl2_k h (fun x4 s3 hc h => ?_)
      refine k_cs (As := [.long a1, .int y1]) (st := [.int y1, .ref (g.2.2 32)]) C (qX7_has l g hg hc) (iW16 _ (List.mem_of_getElem? (i := 11) rfl)) (iW14 _ (List.mem_of_getElem? (i := 22) rfl)) (iW7 _ (List.mem_of_getElem? (i := 4) rfl)) (iW14 _ (List.mem_of_getElem? (i := 23) rfl)) rfl rfl hdX7_has (by decide) rfl rfl (Nat.le_of_ble_eq_true rfl) (dk dX0_admit_0 10 rfl) ?_
      refine kl_J (P := (fun J33 => ∀ (y5 : Int64) (s6 : St), J33 y5 s6 = some σe → WK 33 [(0, .ref (g.2.2 28)), (1, .long a1), (3, .int y1)] [.long y5, .int y1, .ref (g.2.2 32)] s6)) h (fun y5 s6 h => ?_) (fun J33 hJ33 h => ?_)
      ·
        unfold mX0_admit_33 at h
        refine k_last C rfl rfl (dk dX0_admit_0 20 rfl) h (fun s7 h => ?_)
        refine k_iinc (lv' := [(3, .int (y1 + 1)), (0, .ref (g.2.2 28)), (1, .long a1)]) C (dk dX0_admit_0 21 rfl) (j := 2) rfl rfl (by decide) rfl ?_
        refine k_goto (tgt := 2) C (dk dX0_admit_0 22 rfl) (by decide) ?_
        refine k_sub C [1, 2, 0] rfl ?_
        exact hJ2 _ _ h
      ·
        refine k_if_eq (tgt := 32) C (dk dX0_admit_0 11 rfl) (by decide) h (fun h => ?_) (fun h => ?_)
        ·
          refine k_lconst (v := (0 : Int64)) C (dk dX0_admit_0 19 rfl) (by decide) ?_
          exact hJ33 _ _ h
        ·
          refine k_aload_n C (dk dX0_admit_0 12 rfl) rfl 0 rfl ?_
          refine k_getR (q := 31) (D := RX0) (T := TX0) (N := 9) (ci := 0) (k := 2) C iCX0 rfl (by decide) rfl (by decide) (iW1 _ (List.mem_of_getElem? (i := 25) rfl)) rfl (dk dX0_admit_0 13 rfl) ?_
          refine k_iload_n C (dk dX0_admit_0 14 rfl) rfl 2 rfl ?_
          refine k_lald C rfl rfl (dk dX0_admit_0 15 rfl) h (fun x8 h => ?_)
          refine k_lload_n C (dk dX0_admit_0 16 rfl) rfl 1 rfl ?_
          refine k_land C (dk dX0_admit_0 17 rfl) ?_
          refine k_goto (tgt := 33) C (dk dX0_admit_0 18 rfl) (by decide) ?_
          exact hJ33 _ _ h
  ·
    refine k_sub C [1, 2, 0] rfl ?_
    exact hJ2 _ _ h
set_option maxRecDepth 100000 in
set_option maxHeartbeats 4000000 in
theorem qX0_lay (l : Launch) (g : G) (hg : gOK g) {o1 : Nat} (ho1 : kd o1 = 1) {s0 σe : St} (h : mX0_lay o1 s0 = some σe) : Mc l g yX0_lay cX0_lay 5 none { frames := 3, cells := 0, slots := 0, locals := 66 } [.ref (g.2.2 28), .ref (g.2.2 o1)] s0 none σe := by
  refine k_enter hg pnRX0 rfl (Nat.le_of_ble_eq_true rfl) ?_
  intro WK C
  unfold mX0_lay at h
  show WK 0 [(0, .ref (g.2.2 28)), (1, .ref (g.2.2 o1))] [] s0
  refine k_iconst (v := (0 : Int32)) C (dk dX0_lay_0 0 rfl) (by decide) ?_
  refine k_istore_n (lv' := [(2, .int (0 : Int32)), (0, .ref (g.2.2 28)), (1, .ref (g.2.2 o1))]) C (dk dX0_lay_0 1 rfl) rfl (by decide) rfl ?_
  refine kl_L (P := (fun J2 => ∀ (y1 : Int32) (s2 : St), J2 y1 s2 = some σe → WK 2 [(0, .ref (g.2.2 28)), (1, .ref (g.2.2 o1)), (2, .int y1)] [] s2)) h (fun _ _ h => nomatch h) (fun J2 hJ2 y1 s2 h => ?_) (fun J2 hJ2 h => ?_)
  ·
    unfold mX0_lay_2 at h
    refine k_iload_n C (dk dX0_lay_0 2 rfl) rfl 2 rfl ?_
    refine k_bipush (v := (36 : Int32)) C (dk dX0_lay_0 3 rfl) (by decide) ?_
    refine k_icmp_ge (tgt := 25) C (dk dX0_lay_0 4 rfl) (by decide) h (fun h => ?_) (fun h => ?_)
    ·
      refine k_iconst (v := (0 : Int32)) C (dk dX0_lay_0 14 rfl) (by decide) ?_
      refine k_istore_n (lv' := [(2, .int (0 : Int32)), (0, .ref (g.2.2 28)), (1, .ref (g.2.2 o1))]) C (dk dX0_lay_0 15 rfl) rfl (by decide) rfl ?_
      refine kl_L (P := (fun J27 => ∀ (y3 : Int32) (s4 : St), J27 y3 s4 = some σe → WK 27 [(0, .ref (g.2.2 28)), (1, .ref (g.2.2 o1)), (2, .int y3)] [] s4)) h (fun _ _ h => nomatch h) (fun J27 hJ27 y3 s4 h => ?_) (fun J27 hJ27 h => ?_)
      ·
        unfold mX0_lay_27 at h
        refine k_iload_n C (dk dX0_lay_0 16 rfl) rfl 2 rfl ?_
        refine k_bipush (v := (36 : Int32)) C (dk dX0_lay_0 17 rfl) (by decide) ?_
        refine k_icmp_ge (tgt := 92) C (dk dX0_lay_0 18 rfl) (by decide) h (fun h => ?_) (fun h => ?_)
        ·
          refine k_aload_n C (dk dX0_lay_1 22 rfl) rfl 0 rfl ?_
          refine k_aload_n C (dk dX0_lay_1 23 rfl) rfl 1 rfl ?_
          refine k_getI (D := RX3) (T := TX3) (N := 10) (ci := 1) (k := 3) C iCX3 ho1 (by decide) rfl (by decide) (iW15 _ (List.mem_of_getElem? (i := 28) rfl)) rfl (dk dX0_lay_1 24 rfl) h (fun x5 h => ?_)
          refine k_aload_n C (dk dX0_lay_1 25 rfl) rfl 1 rfl ?_
          refine k_getI (D := RX3) (T := TX3) (N := 10) (ci := 1) (k := 4) C iCX3 ho1 (by decide) rfl (by decide) (iW15 _ (List.mem_of_getElem? (i := 29) rfl)) rfl (dk dX0_lay_1 26 rfl) h (fun x6 h => ?_)
          refine cl1_k h (fun s7 hc h => ?_)
          refine k_cv (T := TX0) (N := 9) (ci := 0) (ob := 28) (As := [.int x5, .int x6]) (st := []) C (qX0_bound l g hg hc) (iW16 _ (List.mem_of_getElem? (i := 2) rfl)) (iW16 _ (List.mem_of_getElem? (i := 3) rfl)) (iW16 _ (List.mem_of_getElem? (i := 4) rfl)) (iW0 _ (List.mem_of_getElem? (i := 21) rfl)) (iW16 _ (List.mem_of_getElem? (i := 5) rfl)) rfl rfl hdX0_bound (by decide) rfl (by decide) rfl rfl rfl (Nat.le_of_ble_eq_true rfl) (dk dX0_lay_1 27 rfl) ?_
          refine k_aload_n C (dk dX0_lay_1 28 rfl) rfl 0 rfl ?_
          refine k_aload_n C (dk dX0_lay_1 29 rfl) rfl 1 rfl ?_
          refine cl2_k h (fun x9 s8 hc h => ?_)
          refine k_cv (T := TX3) (N := 10) (ci := 1) (ob := o1) (As := []) (st := [.ref (g.2.2 28)]) C (qX3_openCells l g hg ho1 hc) (iW16 _ (List.mem_of_getElem? (i := 6) rfl)) (iW14 _ (List.mem_of_getElem? (i := 11) rfl)) (iW14 _ (List.mem_of_getElem? (i := 12) rfl)) (iW0 _ (List.mem_of_getElem? (i := 15) rfl)) (iW14 _ (List.mem_of_getElem? (i := 13) rfl)) rfl rfl hdX3_openCells (by decide) ho1 (by decide) rfl rfl rfl (Nat.le_of_ble_eq_true rfl) (dk dX0_lay_1 30 rfl) ?_
          refine cl1_k h (fun s10 hc h => ?_)
          refine k_cv (T := TX0) (N := 9) (ci := 0) (ob := 28) (As := [.long x9]) (st := []) C (qX0_admit l g hg hc) (iW16 _ (List.mem_of_getElem? (i := 7) rfl)) (iW16 _ (List.mem_of_getElem? (i := 8) rfl)) (iW16 _ (List.mem_of_getElem? (i := 9) rfl)) (iW0 _ (List.mem_of_getElem? (i := 21) rfl)) (iW16 _ (List.mem_of_getElem? (i := 10) rfl)) rfl rfl hdX0_admit (by decide) rfl (by decide) rfl rfl rfl (Nat.le_of_ble_eq_true rfl) (dk dX0_lay_1 31 rfl) ?_
          exact k_vret C (dk dX0_lay_2 0 rfl) h
        ·
          refine k_iconst (v := (0 : Int32)) C (dk dX0_lay_0 19 rfl) (by decide) ?_
          refine k_istore_n (lv' := [(3, .int (0 : Int32)), (0, .ref (g.2.2 28)), (1, .ref (g.2.2 o1)), (2, .int y3)]) C (dk dX0_lay_0 20 rfl) rfl (by decide) rfl ?_
          refine kl_L (P := (fun J35 => ∀ (y11 : Int32) (s12 : St), J35 y11 s12 = some σe → WK 35 [(0, .ref (g.2.2 28)), (1, .ref (g.2.2 o1)), (2, .int y3), (3, .int y11)] [] s12)) h (fun _ _ h => nomatch h) (fun J35 hJ35 y11 s12 h => ?_) (fun J35 hJ35 h => ?_)
          ·
            unfold mX0_lay_35 at h
            refine k_iload_n C (dk dX0_lay_0 21 rfl) rfl 3 rfl ?_
            refine k_bipush (v := (36 : Int32)) C (dk dX0_lay_0 22 rfl) (by decide) ?_
            refine k_icmp_ge (tgt := 86) C (dk dX0_lay_0 23 rfl) (by decide) h (fun h => ?_) (fun h => ?_)
            ·
              refine k_iinc (lv' := [(2, .int (y3 + 1)), (0, .ref (g.2.2 28)), (1, .ref (g.2.2 o1)), (3, .int y11)]) C (dk dX0_lay_1 20 rfl) (j := 2) rfl rfl (by decide) rfl ?_
              refine k_goto (tgt := 27) C (dk dX0_lay_1 21 rfl) (by decide) ?_
              refine k_sub C [1, 2, 0] rfl ?_
              exact hJ27 _ _ h
            ·
              refine k_aload_n C (dk dX0_lay_0 24 rfl) rfl 0 rfl ?_
              refine k_getR (q := 29) (D := RX0) (T := TX0) (N := 9) (ci := 0) (k := 0) C iCX0 rfl (by decide) rfl (by decide) (iW1 _ (List.mem_of_getElem? (i := 23) rfl)) rfl (dk dX0_lay_0 25 rfl) ?_
              refine k_iload_n C (dk dX0_lay_0 26 rfl) rfl 2 rfl ?_
              refine k_iald C rfl rfl (dk dX0_lay_0 27 rfl) h (fun x13 h => ?_)
              refine k_aload_n C (dk dX0_lay_0 28 rfl) rfl 0 rfl ?_
              refine k_getR (q := 29) (D := RX0) (T := TX0) (N := 9) (ci := 0) (k := 0) C iCX0 rfl (by decide) rfl (by decide) (iW1 _ (List.mem_of_getElem? (i := 23) rfl)) rfl (dk dX0_lay_0 29 rfl) ?_
              refine k_iload_n C (dk dX0_lay_0 30 rfl) rfl 3 rfl ?_
              refine k_iald C rfl rfl (dk dX0_lay_0 31 rfl) h (fun x14 h => ?_)
              refine k_isub C (dk dX0_lay_1 0 rfl) ?_
              refine k_mabs C (iW15 _ (List.mem_of_getElem? (i := 27) rfl)) (iW7 _ (List.mem_of_getElem? (i := 16) rfl)) (iW7 _ (List.mem_of_getElem? (i := 17) rfl)) (iW7 _ (List.mem_of_getElem? (i := 18) rfl)) (Nat.le_of_ble_eq_true rfl) (Nat.le_of_ble_eq_true rfl) (dk dX0_lay_1 1 rfl) ?_
              refine nmI h (fun x15 h => ?_)
              refine k_istore (lv' := [(4, .int x15), (0, .ref (g.2.2 28)), (1, .ref (g.2.2 o1)), (2, .int y3), (3, .int y11)]) C (dk dX0_lay_1 2 rfl) (by decide) rfl ?_
              refine k_aload_n C (dk dX0_lay_1 3 rfl) rfl 1 rfl ?_
              refine k_getR (q := 30) (D := RX0) (T := TX0) (N := 9) (ci := 0) (k := 1) C iCX0 rfl (by decide) rfl (by decide) (iW1 _ (List.mem_of_getElem? (i := 24) rfl)) rfl (dk dX0_lay_1 4 rfl) ?_
              refine k_iload_n C (dk dX0_lay_1 5 rfl) rfl 3 rfl ?_
              refine k_bipush (v := (36 : Int32)) C (dk dX0_lay_1 6 rfl) (by decide) ?_
              refine k_imul C (dk dX0_lay_1 7 rfl) ?_
              refine k_iload_n C (dk dX0_lay_1 8 rfl) rfl 4 rfl ?_
              refine k_iadd C (dk dX0_lay_1 9 rfl) ?_
              refine k_iload_n C (dk dX0_lay_1 10 rfl) rfl 3 rfl ?_
              refine k_iload_n C (dk dX0_lay_1 11 rfl) rfl 4 rfl ?_
              refine cl2_k h (fun x17 s16 hc h => ?_)
              refine k_cs (As := [.int y3, .int y11]) (st := [.int ((y3 * (36 : Int32)) + y11), .ref (g.2.2 30)]) C (qX7_apart l g hg hc) (iW16 _ (List.mem_of_getElem? (i := 1) rfl)) (iW7 _ (List.mem_of_getElem? (i := 20) rfl)) (iW7 _ (List.mem_of_getElem? (i := 4) rfl)) (iW7 _ (List.mem_of_getElem? (i := 21) rfl)) rfl rfl hdX7_apart (by decide) rfl rfl (Nat.le_of_ble_eq_true rfl) (dk dX0_lay_1 12 rfl) ?_
              refine k_iload C (dk dX0_lay_1 13 rfl) 0 rfl ?_
              refine k_iconst (v := (2 : Int32)) C (dk dX0_lay_1 14 rfl) (by decide) ?_
              refine k_idiv C (dk dX0_lay_1 15 rfl) (by decide) ?_
              refine k_iadd C (dk dX0_lay_1 16 rfl) ?_
              refine k_iast C rfl rfl (dk dX0_lay_1 17 rfl) h (fun s18 h => ?_)
              refine k_iinc (lv' := [(3, .int (y11 + 1)), (4, .int x15), (0, .ref (g.2.2 28)), (1, .ref (g.2.2 o1)), (2, .int y3)]) C (dk dX0_lay_1 18 rfl) (j := 4) rfl rfl (by decide) rfl ?_
              refine k_goto (tgt := 35) C (dk dX0_lay_1 19 rfl) (by decide) ?_
              refine k_sub C [2, 3, 4, 0] rfl ?_
              exact hJ35 _ _ h
          ·
            refine k_sub C [1, 2, 3, 0] rfl ?_
            exact hJ35 _ _ h
      ·
        refine k_sub C [1, 2, 0] rfl ?_
        exact hJ27 _ _ h
    ·
      refine k_aload_n C (dk dX0_lay_0 5 rfl) rfl 0 rfl ?_
      refine k_getR (q := 29) (D := RX0) (T := TX0) (N := 9) (ci := 0) (k := 0) C iCX0 rfl (by decide) rfl (by decide) (iW1 _ (List.mem_of_getElem? (i := 23) rfl)) rfl (dk dX0_lay_0 6 rfl) ?_
      refine k_iload_n C (dk dX0_lay_0 7 rfl) rfl 2 rfl ?_
      refine k_aload_n C (dk dX0_lay_0 8 rfl) rfl 1 rfl ?_
      refine k_iload_n C (dk dX0_lay_0 9 rfl) rfl 2 rfl ?_
      refine cl2_k h (fun x20 s19 hc h => ?_)
      refine k_cv (T := TX3) (N := 10) (ci := 1) (ob := o1) (As := [.int y1]) (st := [.int y1, .ref (g.2.2 29)]) C (qX3_heightAt l g hg ho1 hc) (iW16 _ (List.mem_of_getElem? (i := 0) rfl)) (iW7 _ (List.mem_of_getElem? (i := 24) rfl)) (iW7 _ (List.mem_of_getElem? (i := 25) rfl)) (iW0 _ (List.mem_of_getElem? (i := 15) rfl)) (iW7 _ (List.mem_of_getElem? (i := 26) rfl)) rfl rfl hdX3_heightAt (by decide) ho1 (by decide) rfl rfl rfl (Nat.le_of_ble_eq_true rfl) (dk dX0_lay_0 10 rfl) ?_
      refine k_iast C rfl rfl (dk dX0_lay_0 11 rfl) h (fun s21 h => ?_)
      refine k_iinc (lv' := [(2, .int (y1 + 1)), (0, .ref (g.2.2 28)), (1, .ref (g.2.2 o1))]) C (dk dX0_lay_0 12 rfl) (j := 2) rfl rfl (by decide) rfl ?_
      refine k_goto (tgt := 2) C (dk dX0_lay_0 13 rfl) (by decide) ?_
      refine k_sub C [1, 2, 0] rfl ?_
      exact hJ2 _ _ h
  ·
    refine k_sub C [1, 2, 0] rfl ?_
    exact hJ2 _ _ h
set_option maxRecDepth 100000 in
set_option maxHeartbeats 4000000 in
theorem qX0_nearOf (l : Launch) (g : G) (hg : gOK g) {a1 : Int32}  {s0 σe : St} {v : Int64} (h : mX0_nearOf a1 s0 = some (v, σe)) : Mc l g yX0_nearOf cX0_nearOf 2 (some .long) { frames := 1, cells := 0, slots := 0, locals := 21 } [.ref (g.2.2 28), .int a1] s0 (some (.long v)) σe := by
  refine k_enter hg pnRX0 rfl (Nat.le_of_ble_eq_true rfl) ?_
  intro WK C
  unfold mX0_nearOf at h
  show WK 0 [(0, .ref (g.2.2 28)), (1, .int a1)] [] s0
  refine k_iload_n C (dk dX0_nearOf_0 0 rfl) rfl 1 rfl ?_
  refine k_i2l C (dk dX0_nearOf_0 1 rfl) ?_
  refine cl2_k h (fun x2 s1 hc h => ?_)
  refine k_cn (As := [.long a1.toInt64]) (st := []) C (qX10_isCell l g hg hc) (iW5 _ (List.mem_of_getElem? (i := 21) rfl)) rfl rfl (List.mem_of_getElem? (i := 5) rfl) (iW5 _ (List.mem_of_getElem? (i := 20) rfl)) (iW0 _ (List.mem_of_getElem? (i := 2) rfl)) hdX10_isCell (by decide) rfl rfl (Nat.le_of_ble_eq_true rfl) (dk dX0_nearOf_0 2 rfl) ?_
  refine k_if_eq (tgt := 17) C (dk dX0_nearOf_0 3 rfl) (by decide) h (fun h => ?_) (fun h => ?_)
  ·
    refine k_lconst (v := (0 : Int64)) C (dk dX0_nearOf_0 9 rfl) (by decide) ?_
    exact k_lret C (dk dX0_nearOf_0 10 rfl) h
  ·
    refine k_aload_n C (dk dX0_nearOf_0 4 rfl) rfl 0 rfl ?_
    refine k_getR (q := 31) (D := RX0) (T := TX0) (N := 9) (ci := 0) (k := 2) C iCX0 rfl (by decide) rfl (by decide) (iW1 _ (List.mem_of_getElem? (i := 25) rfl)) rfl (dk dX0_nearOf_0 5 rfl) ?_
    refine k_iload_n C (dk dX0_nearOf_0 6 rfl) rfl 1 rfl ?_
    refine k_lald C rfl rfl (dk dX0_nearOf_0 7 rfl) h (fun x3 h => ?_)
    refine k_goto (tgt := 18) C (dk dX0_nearOf_0 8 rfl) (by decide) ?_
    exact k_lret C (dk dX0_nearOf_0 10 rfl) h
set_option maxRecDepth 100000 in
set_option maxHeartbeats 4000000 in
theorem qX0_isPair (l : Launch) (g : G) (hg : gOK g) {a1 : Int32} {a2 : Int32}  {s0 σe : St} {v : Int32} (h : mX0_isPair a1 a2 s0 = some (v, σe)) : Mc l g yX0_isPair cX0_isPair 3 (some .boolean) { frames := 2, cells := 0, slots := 0, locals := 42 } [.ref (g.2.2 28), .int a1, .int a2] s0 (some (.int v)) σe := by
  refine k_enter hg pnRX0 rfl (Nat.le_of_ble_eq_true rfl) ?_
  intro WK C
  unfold mX0_isPair at h
  show WK 0 [(0, .ref (g.2.2 28)), (1, .int a1), (2, .int a2)] [] s0
  refine k_iload_n C (dk dX0_isPair_0 0 rfl) rfl 1 rfl ?_
  refine k_i2l C (dk dX0_isPair_0 1 rfl) ?_
  refine cl2_k h (fun x2 s1 hc h => ?_)
  refine k_cn (As := [.long a1.toInt64]) (st := []) C (qX10_isCell l g hg hc) (iW5 _ (List.mem_of_getElem? (i := 21) rfl)) rfl rfl (List.mem_of_getElem? (i := 5) rfl) (iW5 _ (List.mem_of_getElem? (i := 20) rfl)) (iW0 _ (List.mem_of_getElem? (i := 2) rfl)) hdX10_isCell (by decide) rfl rfl (Nat.le_of_ble_eq_true rfl) (dk dX0_isPair_0 2 rfl) ?_
  refine k_if_eq (tgt := 25) C (dk dX0_isPair_0 3 rfl) (by decide) h (fun h => ?_) (fun h => ?_)
  ·
    refine k_iconst (v := (0 : Int32)) C (dk dX0_isPair_0 13 rfl) (by decide) ?_
    exact k_zret C (dk dX0_isPair_0 14 rfl) h
  ·
    refine k_aload_n C (dk dX0_isPair_0 4 rfl) rfl 0 rfl ?_
    refine k_getR (q := 32) (D := RX0) (T := TX0) (N := 9) (ci := 0) (k := 3) C iCX0 rfl (by decide) rfl (by decide) (iW1 _ (List.mem_of_getElem? (i := 26) rfl)) rfl (dk dX0_isPair_0 5 rfl) ?_
    refine k_iload_n C (dk dX0_isPair_0 6 rfl) rfl 1 rfl ?_
    refine k_lald C rfl rfl (dk dX0_isPair_0 7 rfl) h (fun x3 h => ?_)
    refine k_iload_n C (dk dX0_isPair_0 8 rfl) rfl 2 rfl ?_
    refine cl2_k h (fun x5 s4 hc h => ?_)
    refine k_cs (As := [.long x3, .int a2]) (st := []) C (qX7_has l g hg hc) (iW16 _ (List.mem_of_getElem? (i := 11) rfl)) (iW14 _ (List.mem_of_getElem? (i := 22) rfl)) (iW7 _ (List.mem_of_getElem? (i := 4) rfl)) (iW14 _ (List.mem_of_getElem? (i := 23) rfl)) rfl rfl hdX7_has (by decide) rfl rfl (Nat.le_of_ble_eq_true rfl) (dk dX0_isPair_0 9 rfl) ?_
    refine k_if_eq (tgt := 25) C (dk dX0_isPair_0 10 rfl) (by decide) h (fun h => ?_) (fun h => ?_)
    ·
      refine k_iconst (v := (0 : Int32)) C (dk dX0_isPair_0 13 rfl) (by decide) ?_
      exact k_zret C (dk dX0_isPair_0 14 rfl) h
    ·
      refine k_iconst (v := (1 : Int32)) C (dk dX0_isPair_0 11 rfl) (by decide) ?_
      refine k_goto (tgt := 26) C (dk dX0_isPair_0 12 rfl) (by decide) ?_
      exact k_zret C (dk dX0_isPair_0 14 rfl) h
set_option maxRecDepth 100000 in
set_option maxHeartbeats 4000000 in
theorem qJ13_bitCount_95d88 (l : Launch) (g : G) (hg : gOK g) {a0 : Int64}  {s0 σe : St} {v : Int32} (h : mJ13_bitCount_95d88 a0 s0 = some (v, σe)) : Mc l g yJ13_bitCount_95d88 cJ13_bitCount_95d88 2 (some .int) { frames := 0, cells := 0, slots := 0, locals := 0 } [.long a0] s0 (some (.int v)) σe := by
  refine k_enter hg pnRJ13 rfl (Nat.le_of_ble_eq_true rfl) ?_
  intro WK C
  unfold mJ13_bitCount_95d88 at h
  show WK 0 [(0, .long a0)] [] s0
  refine k_lload_n C (dk dJ13_bitCount_95d88_0 0 rfl) rfl 0 rfl ?_
  refine k_lload_n C (dk dJ13_bitCount_95d88_0 1 rfl) rfl 0 rfl ?_
  refine k_iconst (v := (1 : Int32)) C (dk dJ13_bitCount_95d88_0 2 rfl) (by decide) ?_
  refine k_lushr C (dk dJ13_bitCount_95d88_0 3 rfl) ?_
  refine k_ldc2 (v := (6148914691236517205 : Int64)) C (dk dJ13_bitCount_95d88_0 4 rfl) (iW16 _ (List.mem_of_getElem? (i := 23) rfl)) ?_
  refine k_land C (dk dJ13_bitCount_95d88_0 5 rfl) ?_
  refine k_lsub C (dk dJ13_bitCount_95d88_0 6 rfl) ?_
  refine nmL h (fun x1 h => ?_)
  refine k_lstore_n (lv' := [(0, .long x1)]) C (dk dJ13_bitCount_95d88_0 7 rfl) rfl (by decide) rfl ?_
  refine k_lload_n C (dk dJ13_bitCount_95d88_0 8 rfl) rfl 0 rfl ?_
  refine k_ldc2 (v := (3689348814741910323 : Int64)) C (dk dJ13_bitCount_95d88_0 9 rfl) (iW16 _ (List.mem_of_getElem? (i := 24) rfl)) ?_
  refine k_land C (dk dJ13_bitCount_95d88_0 10 rfl) ?_
  refine k_lload_n C (dk dJ13_bitCount_95d88_0 11 rfl) rfl 0 rfl ?_
  refine k_iconst (v := (2 : Int32)) C (dk dJ13_bitCount_95d88_0 12 rfl) (by decide) ?_
  refine k_lushr C (dk dJ13_bitCount_95d88_0 13 rfl) ?_
  refine k_ldc2 (v := (3689348814741910323 : Int64)) C (dk dJ13_bitCount_95d88_0 14 rfl) (iW16 _ (List.mem_of_getElem? (i := 24) rfl)) ?_
  refine k_land C (dk dJ13_bitCount_95d88_0 15 rfl) ?_
  refine k_ladd C (dk dJ13_bitCount_95d88_0 16 rfl) ?_
  refine nmL h (fun x2 h => ?_)
  refine k_lstore_n (lv' := [(0, .long x2)]) C (dk dJ13_bitCount_95d88_0 17 rfl) rfl (by decide) rfl ?_
  refine k_lload_n C (dk dJ13_bitCount_95d88_0 18 rfl) rfl 0 rfl ?_
  refine k_lload_n C (dk dJ13_bitCount_95d88_0 19 rfl) rfl 0 rfl ?_
  refine k_iconst (v := (4 : Int32)) C (dk dJ13_bitCount_95d88_0 20 rfl) (by decide) ?_
  refine k_lushr C (dk dJ13_bitCount_95d88_0 21 rfl) ?_
  refine k_ladd C (dk dJ13_bitCount_95d88_0 22 rfl) ?_
  refine k_ldc2 (v := (1085102592571150095 : Int64)) C (dk dJ13_bitCount_95d88_0 23 rfl) (iW16 _ (List.mem_of_getElem? (i := 25) rfl)) ?_
  refine k_land C (dk dJ13_bitCount_95d88_0 24 rfl) ?_
  refine nmL h (fun x3 h => ?_)
  refine k_lstore_n (lv' := [(0, .long x3)]) C (dk dJ13_bitCount_95d88_0 25 rfl) rfl (by decide) rfl ?_
  refine k_lload_n C (dk dJ13_bitCount_95d88_0 26 rfl) rfl 0 rfl ?_
  refine k_lload_n C (dk dJ13_bitCount_95d88_0 27 rfl) rfl 0 rfl ?_
  refine k_bipush (v := (8 : Int32)) C (dk dJ13_bitCount_95d88_0 28 rfl) (by decide) ?_
  refine k_lushr C (dk dJ13_bitCount_95d88_0 29 rfl) ?_
  refine k_ladd C (dk dJ13_bitCount_95d88_0 30 rfl) ?_
  refine nmL h (fun x4 h => ?_)
  refine k_lstore_n (lv' := [(0, .long x4)]) C (dk dJ13_bitCount_95d88_0 31 rfl) rfl (by decide) rfl ?_
  refine k_lload_n C (dk dJ13_bitCount_95d88_1 0 rfl) rfl 0 rfl ?_
  refine k_lload_n C (dk dJ13_bitCount_95d88_1 1 rfl) rfl 0 rfl ?_
  refine k_bipush (v := (16 : Int32)) C (dk dJ13_bitCount_95d88_1 2 rfl) (by decide) ?_
  refine k_lushr C (dk dJ13_bitCount_95d88_1 3 rfl) ?_
  refine k_ladd C (dk dJ13_bitCount_95d88_1 4 rfl) ?_
  refine nmL h (fun x5 h => ?_)
  refine k_lstore_n (lv' := [(0, .long x5)]) C (dk dJ13_bitCount_95d88_1 5 rfl) rfl (by decide) rfl ?_
  refine k_lload_n C (dk dJ13_bitCount_95d88_1 6 rfl) rfl 0 rfl ?_
  refine k_lload_n C (dk dJ13_bitCount_95d88_1 7 rfl) rfl 0 rfl ?_
  refine k_bipush (v := (32 : Int32)) C (dk dJ13_bitCount_95d88_1 8 rfl) (by decide) ?_
  refine k_lushr C (dk dJ13_bitCount_95d88_1 9 rfl) ?_
  refine k_ladd C (dk dJ13_bitCount_95d88_1 10 rfl) ?_
  refine nmL h (fun x6 h => ?_)
  refine k_lstore_n (lv' := [(0, .long x6)]) C (dk dJ13_bitCount_95d88_1 11 rfl) rfl (by decide) rfl ?_
  refine k_lload_n C (dk dJ13_bitCount_95d88_1 12 rfl) rfl 0 rfl ?_
  refine k_l2i C (dk dJ13_bitCount_95d88_1 13 rfl) ?_
  refine k_bipush (v := (127 : Int32)) C (dk dJ13_bitCount_95d88_1 14 rfl) (by decide) ?_
  refine k_iand C (dk dJ13_bitCount_95d88_1 15 rfl) ?_
  exact k_iret C (dk dJ13_bitCount_95d88_1 16 rfl) h
set_option maxRecDepth 100000 in
set_option maxHeartbeats 4000000 in
theorem qX0_bitsOf (l : Launch) (g : G) (hg : gOK g) {o0 : Nat} (ho0 : kd o0 = 11) {s0 σe : St} {v : Int32} (h : mX0_bitsOf o0 s0 = some (v, σe)) : Mc l g yX0_bitsOf cX0_bitsOf 3 (some .int) { frames := 1, cells := 0, slots := 0, locals := 21 } [.ref (g.2.2 o0)] s0 (some (.int v)) σe := by
  refine k_enter hg pnRX0 rfl (Nat.le_of_ble_eq_true rfl) ?_
  intro WK C
  unfold mX0_bitsOf at h
  show WK 0 [(0, .ref (g.2.2 o0))] [] s0
  refine k_iconst (v := (0 : Int32)) C (dk dX0_bitsOf_0 0 rfl) (by decide) ?_
  refine k_istore_n (lv' := [(1, .int (0 : Int32)), (0, .ref (g.2.2 o0))]) C (dk dX0_bitsOf_0 1 rfl) rfl (by decide) rfl ?_
  refine k_iconst (v := (0 : Int32)) C (dk dX0_bitsOf_0 2 rfl) (by decide) ?_
  refine k_istore_n (lv' := [(2, .int (0 : Int32)), (1, .int (0 : Int32)), (0, .ref (g.2.2 o0))]) C (dk dX0_bitsOf_0 3 rfl) rfl (by decide) rfl ?_
  refine kl_L (P := (fun J4 => ∀ (y1 : Int32) (y2 : Int32) (s3 : St), J4 y1 y2 s3 = some (v, σe) → WK 4 [(0, .ref (g.2.2 o0)), (1, .int y1), (2, .int y2)] [] s3)) h (fun _ _ _ h => nomatch h) (fun J4 hJ4 y1 y2 s3 h => ?_) (fun J4 hJ4 h => ?_)
  ·
    unfold mX0_bitsOf_4 at h
    refine k_iload_n C (dk dX0_bitsOf_0 4 rfl) rfl 2 rfl ?_
    refine k_aload_n C (dk dX0_bitsOf_0 5 rfl) rfl 0 rfl ?_
    refine k_alenL (v := (Int32.ofNat (ln o0))) C ho0 rfl rfl (dk dX0_bitsOf_0 6 rfl) ?_
    refine k_icmp_ge (tgt := 25) C (dk dX0_bitsOf_0 7 rfl) (by decide) h (fun h => ?_) (fun h => ?_)
    ·
      refine k_iload_n C (dk dX0_bitsOf_0 17 rfl) rfl 1 rfl ?_
      exact k_iret C (dk dX0_bitsOf_0 18 rfl) h
    ·
      refine k_iload_n C (dk dX0_bitsOf_0 8 rfl) rfl 1 rfl ?_
      refine k_aload_n C (dk dX0_bitsOf_0 9 rfl) rfl 0 rfl ?_
      refine k_iload_n C (dk dX0_bitsOf_0 10 rfl) rfl 2 rfl ?_
      refine k_lald C ho0 rfl (dk dX0_bitsOf_0 11 rfl) h (fun x4 h => ?_)
      refine cl2_k h (fun x6 s5 hc h => ?_)
      refine k_cs (As := [.long x4]) (st := [.int y1]) C (qJ13_bitCount_95d88 l g hg hc) (iW16 _ (List.mem_of_getElem? (i := 19) rfl)) (iW16 _ (List.mem_of_getElem? (i := 20) rfl)) (iW16 _ (List.mem_of_getElem? (i := 21) rfl)) (iW16 _ (List.mem_of_getElem? (i := 22) rfl)) rfl rfl hdJ13_bitCount_95d88 (by decide) rfl rfl (Nat.le_of_ble_eq_true rfl) (dk dX0_bitsOf_0 12 rfl) ?_
      refine k_iadd C (dk dX0_bitsOf_0 13 rfl) ?_
      refine nmI h (fun x7 h => ?_)
      refine k_istore_n (lv' := [(1, .int x7), (0, .ref (g.2.2 o0)), (2, .int y2)]) C (dk dX0_bitsOf_0 14 rfl) rfl (by decide) rfl ?_
      refine k_iinc (lv' := [(2, .int (y2 + 1)), (1, .int x7), (0, .ref (g.2.2 o0))]) C (dk dX0_bitsOf_0 15 rfl) (j := 2) rfl rfl (by decide) rfl ?_
      refine k_goto (tgt := 4) C (dk dX0_bitsOf_0 16 rfl) (by decide) ?_
      refine k_sub C [2, 1, 0] rfl ?_
      exact hJ4 _ _ _ h
  ·
    refine k_sub C [2, 1, 0] rfl ?_
    exact hJ4 _ _ _ h
set_option maxRecDepth 100000 in
set_option maxHeartbeats 4000000 in
theorem qX0_pairsInAll (l : Launch) (g : G) (hg : gOK g)   {s0 σe : St} {v : Int32} (h : mX0_pairsInAll s0 = some (v, σe)) : Mc l g yX0_pairsInAll cX0_pairsInAll 1 (some .int) { frames := 2, cells := 0, slots := 0, locals := 43 } [.ref (g.2.2 28)] s0 (some (.int v)) σe := by
  refine k_enter hg pnRX0 rfl (Nat.le_of_ble_eq_true rfl) ?_
  intro WK C
  unfold mX0_pairsInAll at h
  show WK 0 [(0, .ref (g.2.2 28))] [] s0
  refine k_aload_n C (dk dX0_pairsInAll_0 0 rfl) rfl 0 rfl ?_
  refine k_getR (q := 32) (D := RX0) (T := TX0) (N := 9) (ci := 0) (k := 3) C iCX0 rfl (by decide) rfl (by decide) (iW1 _ (List.mem_of_getElem? (i := 26) rfl)) rfl (dk dX0_pairsInAll_0 1 rfl) ?_
  refine cl2_k h (fun x2 s1 hc h => ?_)
  refine k_cs (As := [.ref (g.2.2 32)]) (st := []) C (qX0_bitsOf l g hg rfl hc) (iW16 _ (List.mem_of_getElem? (i := 16) rfl)) (iW16 _ (List.mem_of_getElem? (i := 17) rfl)) (iW0 _ (List.mem_of_getElem? (i := 21) rfl)) (iW16 _ (List.mem_of_getElem? (i := 18) rfl)) rfl rfl hdX0_bitsOf (by decide) rfl rfl (Nat.le_of_ble_eq_true rfl) (dk dX0_pairsInAll_0 2 rfl) ?_
  exact k_iret C (dk dX0_pairsInAll_0 3 rfl) h
set_option maxRecDepth 100000 in
set_option maxHeartbeats 4000000 in
theorem qX0_pairAt (l : Launch) (g : G) (hg : gOK g) {a1 : Int32}  {s0 σe : St} {v : Int32} (h : mX0_pairAt a1 s0 = some (v, σe)) : Mc l g yX0_pairAt cX0_pairAt 5 (some .int) { frames := 2, cells := 0, slots := 0, locals := 42 } [.ref (g.2.2 28), .int a1] s0 (some (.int v)) σe := by
  refine k_enter hg pnRX0 rfl (Nat.le_of_ble_eq_true rfl) ?_
  intro WK C
  unfold mX0_pairAt at h
  show WK 0 [(0, .ref (g.2.2 28)), (1, .int a1)] [] s0
  refine k_iload_n C (dk dX0_pairAt_0 0 rfl) rfl 1 rfl ?_
  refine k_istore_n (lv' := [(2, .int a1), (0, .ref (g.2.2 28)), (1, .int a1)]) C (dk dX0_pairAt_0 1 rfl) rfl (by decide) rfl ?_
  refine k_iconst (v := (0 : Int32)) C (dk dX0_pairAt_0 2 rfl) (by decide) ?_
  refine k_istore_n (lv' := [(3, .int (0 : Int32)), (2, .int a1), (0, .ref (g.2.2 28)), (1, .int a1)]) C (dk dX0_pairAt_0 3 rfl) rfl (by decide) rfl ?_
  refine kl_L (P := (fun J4 => ∀ (y1 : Int32) (y2 : Int32) (s3 : St), J4 y1 y2 s3 = some (v, σe) → WK 4 [(0, .ref (g.2.2 28)), (2, .int y1), (3, .int y2)] [] s3)) h (fun _ _ _ h => nomatch h) (fun J4 hJ4 y1 y2 s3 h => ?_) (fun J4 hJ4 h => ?_)
  ·
    unfold mX0_pairAt_4 at h
    refine k_iload_n C (dk dX0_pairAt_0 4 rfl) rfl 2 rfl ?_
    refine k_bipush (v := (36 : Int32)) C (dk dX0_pairAt_0 5 rfl) (by decide) ?_
    refine k_icmp_ge (tgt := 61) C (dk dX0_pairAt_0 6 rfl) (by decide) h (fun h => ?_) (fun h => ?_)
    ·
      refine k_bipush (v := (-4 : Int32)) C (dk dX0_pairAt_1 0 rfl) (by decide) ?_
      exact k_iret C (dk dX0_pairAt_1 1 rfl) h
    ·
      refine k_iconst (v := (0 : Int32)) C (dk dX0_pairAt_0 7 rfl) (by decide) ?_
      refine k_istore (lv' := [(4, .int (0 : Int32)), (0, .ref (g.2.2 28)), (2, .int y1), (3, .int y2)]) C (dk dX0_pairAt_0 8 rfl) (by decide) rfl ?_
      refine kl_L (P := (fun J13 => ∀ (y4 : Int32) (y5 : Int32) (s6 : St), J13 y4 y5 s6 = some (v, σe) → WK 13 [(0, .ref (g.2.2 28)), (2, .int y4), (3, .int y2), (4, .int y5)] [] s6)) h (fun _ _ _ h => nomatch h) (fun J13 hJ13 y4 y5 s6 h => ?_) (fun J13 hJ13 h => ?_)
      ·
        unfold mX0_pairAt_13 at h
        refine k_iload C (dk dX0_pairAt_0 9 rfl) 3 rfl ?_
        refine k_bipush (v := (36 : Int32)) C (dk dX0_pairAt_0 10 rfl) (by decide) ?_
        refine k_icmp_ge (tgt := 55) C (dk dX0_pairAt_0 11 rfl) (by decide) h (fun h => ?_) (fun h => ?_)
        ·
          refine k_iinc (lv' := [(3, .int (y2 + 1)), (0, .ref (g.2.2 28)), (2, .int y4), (4, .int y5)]) C (dk dX0_pairAt_0 30 rfl) (j := 2) rfl rfl (by decide) rfl ?_
          refine k_goto (tgt := 4) C (dk dX0_pairAt_0 31 rfl) (by decide) ?_
          refine k_sub C [1, 2, 0] rfl ?_
          exact hJ4 _ _ _ h
        ·
          refine k_aload_n C (dk dX0_pairAt_0 12 rfl) rfl 0 rfl ?_
          refine k_getR (q := 32) (D := RX0) (T := TX0) (N := 9) (ci := 0) (k := 3) C iCX0 rfl (by decide) rfl (by decide) (iW1 _ (List.mem_of_getElem? (i := 26) rfl)) rfl (dk dX0_pairAt_0 13 rfl) ?_
          refine k_iload_n C (dk dX0_pairAt_0 14 rfl) rfl 2 rfl ?_
          refine k_lald C rfl rfl (dk dX0_pairAt_0 15 rfl) h (fun x7 h => ?_)
          refine k_iload C (dk dX0_pairAt_0 16 rfl) 3 rfl ?_
          refine cl2_k h (fun x9 s8 hc h => ?_)
          refine k_cs (As := [.long x7, .int y5]) (st := []) C (qX7_has l g hg hc) (iW16 _ (List.mem_of_getElem? (i := 11) rfl)) (iW14 _ (List.mem_of_getElem? (i := 22) rfl)) (iW7 _ (List.mem_of_getElem? (i := 4) rfl)) (iW14 _ (List.mem_of_getElem? (i := 23) rfl)) rfl rfl hdX7_has (by decide) rfl rfl (Nat.le_of_ble_eq_true rfl) (dk dX0_pairAt_0 17 rfl) ?_
          refine kl_J (P := (fun J49 => ∀ (y10 : Int32) (y11 : Int32) (s12 : St), J49 y10 y11 s12 = some (v, σe) → WK 49 [(0, .ref (g.2.2 28)), (2, .int y10), (3, .int y2), (4, .int y11)] [] s12)) h (fun y10 y11 s12 h => ?_) (fun J49 hJ49 h => ?_)
          ·
            unfold mX0_pairAt_49 at h
            refine k_iinc (lv' := [(4, .int (y11 + 1)), (0, .ref (g.2.2 28)), (2, .int y10), (3, .int y2)]) C (dk dX0_pairAt_0 28 rfl) (j := 3) rfl rfl (by decide) rfl ?_
            refine k_goto (tgt := 13) C (dk dX0_pairAt_0 29 rfl) (by decide) ?_
            refine k_sub C [1, 2, 3, 0] rfl ?_
            exact hJ13 _ _ _ h
          ·
            refine k_if_eq (tgt := 49) C (dk dX0_pairAt_0 18 rfl) (by decide) h (fun h => ?_) (fun h => ?_)
            ·
              exact hJ49 _ _ _ h
            ·
              refine k_iload_n C (dk dX0_pairAt_0 19 rfl) rfl 1 rfl ?_
              refine k_if_ne (tgt := 46) C (dk dX0_pairAt_0 20 rfl) (by decide) h (fun h => ?_) (fun h => ?_)
              ·
                refine k_iinc (lv' := [(2, .int (y4 + (-1))), (0, .ref (g.2.2 28)), (3, .int y2), (4, .int y5)]) C (dk dX0_pairAt_0 27 rfl) (j := 1) rfl rfl (by decide) rfl ?_
                refine k_sub C [1, 0, 2, 3] rfl ?_
                exact hJ49 _ _ _ h
              ·
                refine k_bipush (v := (100 : Int32)) C (dk dX0_pairAt_0 21 rfl) (by decide) ?_
                refine k_iload_n C (dk dX0_pairAt_0 22 rfl) rfl 2 rfl ?_
                refine k_imul C (dk dX0_pairAt_0 23 rfl) ?_
                refine k_iload C (dk dX0_pairAt_0 24 rfl) 3 rfl ?_
                refine k_iadd C (dk dX0_pairAt_0 25 rfl) ?_
                exact k_iret C (dk dX0_pairAt_0 26 rfl) h
      ·
        refine k_sub C [1, 2, 3, 0] rfl ?_
        exact hJ13 _ _ _ h
  ·
    refine k_sub C [2, 1, 0] rfl ?_
    exact hJ4 _ _ _ h
set_option maxRecDepth 100000 in
set_option maxHeartbeats 4000000 in
theorem qX0_farsInAll (l : Launch) (g : G) (hg : gOK g)   {s0 σe : St} {v : Int64} (h : mX0_farsInAll s0 = some (v, σe)) : Mc l g yX0_farsInAll cX0_farsInAll 5 (some .long) { frames := 2, cells := 0, slots := 0, locals := 42 } [.ref (g.2.2 28)] s0 (some (.long v)) σe := by
  refine k_enter hg pnRX0 rfl (Nat.le_of_ble_eq_true rfl) ?_
  intro WK C
  unfold mX0_farsInAll at h
  show WK 0 [(0, .ref (g.2.2 28))] [] s0
  refine k_lconst (v := (0 : Int64)) C (dk dX0_farsInAll_0 0 rfl) (by decide) ?_
  refine k_lstore_n (lv' := [(1, .long (0 : Int64)), (0, .ref (g.2.2 28))]) C (dk dX0_farsInAll_0 1 rfl) rfl (by decide) rfl ?_
  refine k_iconst (v := (0 : Int32)) C (dk dX0_farsInAll_0 2 rfl) (by decide) ?_
  refine k_istore_n (lv' := [(3, .int (0 : Int32)), (1, .long (0 : Int64)), (0, .ref (g.2.2 28))]) C (dk dX0_farsInAll_0 3 rfl) rfl (by decide) rfl ?_
  refine kl_L (P := (fun J4 => ∀ (y1 : Int64) (y2 : Int32) (s3 : St), J4 y1 y2 s3 = some (v, σe) → WK 4 [(0, .ref (g.2.2 28)), (1, .long y1), (3, .int y2)] [] s3)) h (fun _ _ _ h => nomatch h) (fun J4 hJ4 y1 y2 s3 h => ?_) (fun J4 hJ4 h => ?_)
  ·
    unfold mX0_farsInAll_4 at h
    refine k_iload_n C (dk dX0_farsInAll_0 4 rfl) rfl 2 rfl ?_
    refine k_bipush (v := (36 : Int32)) C (dk dX0_farsInAll_0 5 rfl) (by decide) ?_
    refine k_icmp_ge (tgt := 62) C (dk dX0_farsInAll_0 6 rfl) (by decide) h (fun h => ?_) (fun h => ?_)
    ·
      refine k_lload_n C (dk dX0_farsInAll_1 3 rfl) rfl 1 rfl ?_
      exact k_lret C (dk dX0_farsInAll_1 4 rfl) h
    ·
      refine k_iconst (v := (0 : Int32)) C (dk dX0_farsInAll_0 7 rfl) (by decide) ?_
      refine k_istore (lv' := [(4, .int (0 : Int32)), (0, .ref (g.2.2 28)), (1, .long y1), (3, .int y2)]) C (dk dX0_farsInAll_0 8 rfl) (by decide) rfl ?_
      refine kl_L (P := (fun J13 => ∀ (y4 : Int64) (y5 : Int32) (s6 : St), J13 y4 y5 s6 = some (v, σe) → WK 13 [(0, .ref (g.2.2 28)), (1, .long y4), (3, .int y2), (4, .int y5)] [] s6)) h (fun _ _ _ h => nomatch h) (fun J13 hJ13 y4 y5 s6 h => ?_) (fun J13 hJ13 h => ?_)
      ·
        unfold mX0_farsInAll_13 at h
        refine k_iload C (dk dX0_farsInAll_0 9 rfl) 3 rfl ?_
        refine k_bipush (v := (36 : Int32)) C (dk dX0_farsInAll_0 10 rfl) (by decide) ?_
        refine k_icmp_ge (tgt := 56) C (dk dX0_farsInAll_0 11 rfl) (by decide) h (fun h => ?_) (fun h => ?_)
        ·
          refine k_iinc (lv' := [(3, .int (y2 + 1)), (0, .ref (g.2.2 28)), (1, .long y4), (4, .int y5)]) C (dk dX0_farsInAll_1 1 rfl) (j := 2) rfl rfl (by decide) rfl ?_
          refine k_goto (tgt := 4) C (dk dX0_farsInAll_1 2 rfl) (by decide) ?_
          refine k_sub C [1, 2, 0] rfl ?_
          exact hJ4 _ _ _ h
        ·
          refine k_aload_n C (dk dX0_farsInAll_0 12 rfl) rfl 0 rfl ?_
          refine k_getR (q := 32) (D := RX0) (T := TX0) (N := 9) (ci := 0) (k := 3) C iCX0 rfl (by decide) rfl (by decide) (iW1 _ (List.mem_of_getElem? (i := 26) rfl)) rfl (dk dX0_farsInAll_0 13 rfl) ?_
          refine k_iload_n C (dk dX0_farsInAll_0 14 rfl) rfl 2 rfl ?_
          refine k_lald C rfl rfl (dk dX0_farsInAll_0 15 rfl) h (fun x7 h => ?_)
          refine k_iload C (dk dX0_farsInAll_0 16 rfl) 3 rfl ?_
          refine cl2_k h (fun x9 s8 hc h => ?_)
          refine k_cs (As := [.long x7, .int y5]) (st := []) C (qX7_has l g hg hc) (iW16 _ (List.mem_of_getElem? (i := 11) rfl)) (iW14 _ (List.mem_of_getElem? (i := 22) rfl)) (iW7 _ (List.mem_of_getElem? (i := 4) rfl)) (iW14 _ (List.mem_of_getElem? (i := 23) rfl)) rfl rfl hdX7_has (by decide) rfl rfl (Nat.le_of_ble_eq_true rfl) (dk dX0_farsInAll_0 17 rfl) ?_
          refine kl_J (P := (fun J50 => ∀ (y10 : Int64) (y11 : Int32) (s12 : St), J50 y10 y11 s12 = some (v, σe) → WK 50 [(0, .ref (g.2.2 28)), (1, .long y10), (3, .int y2), (4, .int y11)] [] s12)) h (fun y10 y11 s12 h => ?_) (fun J50 hJ50 h => ?_)
          ·
            unfold mX0_farsInAll_50 at h
            refine k_iinc (lv' := [(4, .int (y11 + 1)), (0, .ref (g.2.2 28)), (1, .long y10), (3, .int y2)]) C (dk dX0_farsInAll_0 31 rfl) (j := 3) rfl rfl (by decide) rfl ?_
            refine k_goto (tgt := 13) C (dk dX0_farsInAll_1 0 rfl) (by decide) ?_
            refine k_sub C [1, 2, 3, 0] rfl ?_
            exact hJ13 _ _ _ h
          ·
            refine k_if_eq (tgt := 50) C (dk dX0_farsInAll_0 18 rfl) (by decide) h (fun h => ?_) (fun h => ?_)
            ·
              exact hJ50 _ _ _ h
            ·
              refine k_lload_n C (dk dX0_farsInAll_0 19 rfl) rfl 1 rfl ?_
              refine k_aload_n C (dk dX0_farsInAll_0 20 rfl) rfl 0 rfl ?_
              refine k_getR (q := 30) (D := RX0) (T := TX0) (N := 9) (ci := 0) (k := 1) C iCX0 rfl (by decide) rfl (by decide) (iW1 _ (List.mem_of_getElem? (i := 24) rfl)) rfl (dk dX0_farsInAll_0 21 rfl) ?_
              refine k_iload_n C (dk dX0_farsInAll_0 22 rfl) rfl 2 rfl ?_
              refine k_bipush (v := (36 : Int32)) C (dk dX0_farsInAll_0 23 rfl) (by decide) ?_
              refine k_imul C (dk dX0_farsInAll_0 24 rfl) ?_
              refine k_iload C (dk dX0_farsInAll_0 25 rfl) 3 rfl ?_
              refine k_iadd C (dk dX0_farsInAll_0 26 rfl) ?_
              refine k_iald C rfl rfl (dk dX0_farsInAll_0 27 rfl) h (fun x13 h => ?_)
              refine k_i2l C (dk dX0_farsInAll_0 28 rfl) ?_
              refine k_ladd C (dk dX0_farsInAll_0 29 rfl) ?_
              refine nmL h (fun x14 h => ?_)
              refine k_lstore_n (lv' := [(1, .long x14), (0, .ref (g.2.2 28)), (3, .int y2), (4, .int y5)]) C (dk dX0_farsInAll_0 30 rfl) rfl (by decide) rfl ?_
              refine k_sub C [1, 0, 2, 3] rfl ?_
              exact hJ50 _ _ _ h
      ·
        refine k_sub C [1, 2, 3, 0] rfl ?_
        exact hJ13 _ _ _ h
  ·
    refine k_sub C [2, 1, 0] rfl ?_
    exact hJ4 _ _ _ h
set_option maxRecDepth 100000 in
set_option maxHeartbeats 4000000 in
theorem qJ7_fill_53178 (l : Launch) (g : G) (hg : gOK g) {o0 : Nat} {a1 : Int32} (ho0 : kd o0 = 10) {s0 σe : St} (h : mJ7_fill_53178 o0 a1 s0 = some σe) : Mc l g yJ7_fill_53178 cJ7_fill_53178 4 none { frames := 0, cells := 0, slots := 0, locals := 0 } [.ref (g.2.2 o0), .int a1] s0 none σe := by
  refine k_enter hg pnRJ7 rfl (Nat.le_of_ble_eq_true rfl) ?_
  intro WK C
  unfold mJ7_fill_53178 at h
  show WK 0 [(0, .ref (g.2.2 o0)), (1, .int a1)] [] s0
  refine k_iconst (v := (0 : Int32)) C (dk dJ7_fill_53178_0 0 rfl) (by decide) ?_
  refine k_istore_n (lv' := [(2, .int (0 : Int32)), (0, .ref (g.2.2 o0)), (1, .int a1)]) C (dk dJ7_fill_53178_0 1 rfl) rfl (by decide) rfl ?_
  refine k_aload_n C (dk dJ7_fill_53178_0 2 rfl) rfl 1 rfl ?_
  refine k_alenI (v := (Int32.ofNat (ln o0))) C ho0 rfl rfl (dk dJ7_fill_53178_0 3 rfl) ?_
  refine nmI h (fun x1 h => ?_)
  refine k_istore_n (lv' := [(3, .int x1), (2, .int (0 : Int32)), (0, .ref (g.2.2 o0)), (1, .int a1)]) C (dk dJ7_fill_53178_0 4 rfl) rfl (by decide) rfl ?_
  refine kl_L (P := (fun J5 => ∀ (y2 : Int32) (s3 : St), J5 y2 s3 = some σe → WK 5 [(0, .ref (g.2.2 o0)), (1, .int a1), (2, .int y2), (3, .int x1)] [] s3)) h (fun _ _ h => nomatch h) (fun J5 hJ5 y2 s3 h => ?_) (fun J5 hJ5 h => ?_)
  ·
    unfold mJ7_fill_53178_5 at h
    refine k_iload_n C (dk dJ7_fill_53178_0 5 rfl) rfl 2 rfl ?_
    refine k_iload_n C (dk dJ7_fill_53178_0 6 rfl) rfl 3 rfl ?_
    refine k_icmp_ge (tgt := 20) C (dk dJ7_fill_53178_0 7 rfl) (by decide) h (fun h => ?_) (fun h => ?_)
    ·
      exact k_vret C (dk dJ7_fill_53178_0 14 rfl) h
    ·
      refine k_aload_n C (dk dJ7_fill_53178_0 8 rfl) rfl 0 rfl ?_
      refine k_iload_n C (dk dJ7_fill_53178_0 9 rfl) rfl 2 rfl ?_
      refine k_iload_n C (dk dJ7_fill_53178_0 10 rfl) rfl 1 rfl ?_
      refine k_iast C ho0 rfl (dk dJ7_fill_53178_0 11 rfl) h (fun s4 h => ?_)
      refine k_iinc (lv' := [(2, .int (y2 + 1)), (0, .ref (g.2.2 o0)), (1, .int a1), (3, .int x1)]) C (dk dJ7_fill_53178_0 12 rfl) (j := 2) rfl rfl (by decide) rfl ?_
      refine k_goto (tgt := 5) C (dk dJ7_fill_53178_0 13 rfl) (by decide) ?_
      refine k_sub C [1, 2, 0, 3] rfl ?_
      exact hJ5 _ _ h
  ·
    refine k_sub C [2, 3, 1, 0] rfl ?_
    exact hJ5 _ _ h
set_option maxRecDepth 100000 in
set_option maxHeartbeats 4000000 in
theorem qJ7_fill_d0a16 (l : Launch) (g : G) (hg : gOK g) {o0 : Nat} {a1 : Int64} (ho0 : kd o0 = 11) {s0 σe : St} (h : mJ7_fill_d0a16 o0 a1 s0 = some σe) : Mc l g yJ7_fill_d0a16 cJ7_fill_d0a16 5 none { frames := 0, cells := 0, slots := 0, locals := 0 } [.ref (g.2.2 o0), .long a1] s0 none σe := by
  refine k_enter hg pnRJ7 rfl (Nat.le_of_ble_eq_true rfl) ?_
  intro WK C
  unfold mJ7_fill_d0a16 at h
  show WK 0 [(0, .ref (g.2.2 o0)), (1, .long a1)] [] s0
  refine k_iconst (v := (0 : Int32)) C (dk dJ7_fill_d0a16_0 0 rfl) (by decide) ?_
  refine k_istore_n (lv' := [(3, .int (0 : Int32)), (0, .ref (g.2.2 o0)), (1, .long a1)]) C (dk dJ7_fill_d0a16_0 1 rfl) rfl (by decide) rfl ?_
  refine k_aload_n C (dk dJ7_fill_d0a16_0 2 rfl) rfl 1 rfl ?_
  refine k_alenL (v := (Int32.ofNat (ln o0))) C ho0 rfl rfl (dk dJ7_fill_d0a16_0 3 rfl) ?_
  refine nmI h (fun x1 h => ?_)
  refine k_istore (lv' := [(4, .int x1), (3, .int (0 : Int32)), (0, .ref (g.2.2 o0)), (1, .long a1)]) C (dk dJ7_fill_d0a16_0 4 rfl) (by decide) rfl ?_
  refine kl_L (P := (fun J6 => ∀ (y2 : Int32) (s3 : St), J6 y2 s3 = some σe → WK 6 [(0, .ref (g.2.2 o0)), (1, .long a1), (3, .int y2), (4, .int x1)] [] s3)) h (fun _ _ h => nomatch h) (fun J6 hJ6 y2 s3 h => ?_) (fun J6 hJ6 h => ?_)
  ·
    unfold mJ7_fill_d0a16_6 at h
    refine k_iload_n C (dk dJ7_fill_d0a16_0 5 rfl) rfl 2 rfl ?_
    refine k_iload C (dk dJ7_fill_d0a16_0 6 rfl) 3 rfl ?_
    refine k_icmp_ge (tgt := 22) C (dk dJ7_fill_d0a16_0 7 rfl) (by decide) h (fun h => ?_) (fun h => ?_)
    ·
      exact k_vret C (dk dJ7_fill_d0a16_0 14 rfl) h
    ·
      refine k_aload_n C (dk dJ7_fill_d0a16_0 8 rfl) rfl 0 rfl ?_
      refine k_iload_n C (dk dJ7_fill_d0a16_0 9 rfl) rfl 2 rfl ?_
      refine k_lload_n C (dk dJ7_fill_d0a16_0 10 rfl) rfl 1 rfl ?_
      refine k_last C ho0 rfl (dk dJ7_fill_d0a16_0 11 rfl) h (fun s4 h => ?_)
      refine k_iinc (lv' := [(3, .int (y2 + 1)), (0, .ref (g.2.2 o0)), (1, .long a1), (4, .int x1)]) C (dk dJ7_fill_d0a16_0 12 rfl) (j := 2) rfl rfl (by decide) rfl ?_
      refine k_goto (tgt := 6) C (dk dJ7_fill_d0a16_0 13 rfl) (by decide) ?_
      refine k_sub C [1, 2, 0, 3] rfl ?_
      exact hJ6 _ _ h
  ·
    refine k_sub C [2, 3, 1, 0] rfl ?_
    exact hJ6 _ _ h
set_option maxRecDepth 100000 in
set_option maxHeartbeats 4000000 in
theorem qX0_start (l : Launch) (g : G) (hg : gOK g) {a1 : Int32} {a2 : Int32}  {s0 σe : St} (h : mX0_start a1 a2 s0 = some σe) : Mc l g yX0_start cX0_start 3 none { frames := 3, cells := 0, slots := 0, locals := 64 } [.ref (g.2.2 28), .int a1, .int a2] s0 none σe := by
  refine k_enter hg pnRX0 rfl (Nat.le_of_ble_eq_true rfl) ?_
  intro WK C
  unfold mX0_start at h
  show WK 0 [(0, .ref (g.2.2 28)), (1, .int a1), (2, .int a2)] [] s0
  refine k_aload_n C (dk dX0_start_0 0 rfl) rfl 0 rfl ?_
  refine k_getR (q := 35) (D := RX0) (T := TX0) (N := 9) (ci := 0) (k := 6) C iCX0 rfl (by decide) rfl (by decide) (iW1 _ (List.mem_of_getElem? (i := 29) rfl)) rfl (dk dX0_start_0 1 rfl) ?_
  refine k_bipush (v := (-4 : Int32)) C (dk dX0_start_0 2 rfl) (by decide) ?_
  refine cl1_k h (fun s1 hc h => ?_)
  refine k_cs (As := [.ref (g.2.2 35), .int (-4 : Int32)]) (st := []) C (qJ7_fill_53178 l g hg rfl hc) (iW20 _ (List.mem_of_getElem? (i := 5) rfl)) (iW20 _ (List.mem_of_getElem? (i := 6) rfl)) (iW20 _ (List.mem_of_getElem? (i := 7) rfl)) (iW20 _ (List.mem_of_getElem? (i := 8) rfl)) rfl rfl hdJ7_fill_53178 (by decide) rfl rfl (Nat.le_of_ble_eq_true rfl) (dk dX0_start_0 3 rfl) ?_
  refine k_aload_n C (dk dX0_start_0 4 rfl) rfl 0 rfl ?_
  refine k_getR (q := 33) (D := RX0) (T := TX0) (N := 9) (ci := 0) (k := 4) C iCX0 rfl (by decide) rfl (by decide) (iW1 _ (List.mem_of_getElem? (i := 27) rfl)) rfl (dk dX0_start_0 5 rfl) ?_
  refine k_lconst (v := (0 : Int64)) C (dk dX0_start_0 6 rfl) (by decide) ?_
  refine cl1_k h (fun s2 hc h => ?_)
  refine k_cs (As := [.ref (g.2.2 33), .long (0 : Int64)]) (st := []) C (qJ7_fill_d0a16 l g hg rfl hc) (iW20 _ (List.mem_of_getElem? (i := 9) rfl)) (iW20 _ (List.mem_of_getElem? (i := 10) rfl)) (iW20 _ (List.mem_of_getElem? (i := 7) rfl)) (iW20 _ (List.mem_of_getElem? (i := 11) rfl)) rfl rfl hdJ7_fill_d0a16 (by decide) rfl rfl (Nat.le_of_ble_eq_true rfl) (dk dX0_start_0 7 rfl) ?_
  refine k_aload_n C (dk dX0_start_0 8 rfl) rfl 0 rfl ?_
  refine k_iload_n C (dk dX0_start_0 9 rfl) rfl 1 rfl ?_
  refine k_iload_n C (dk dX0_start_0 10 rfl) rfl 2 rfl ?_
  refine cl2_k h (fun x4 s3 hc h => ?_)
  refine k_cv (T := TX0) (N := 9) (ci := 0) (ob := 28) (As := [.int a1, .int a2]) (st := []) C (qX0_isPair l g hg hc) (iW19 _ (List.mem_of_getElem? (i := 27) rfl)) (iW19 _ (List.mem_of_getElem? (i := 28) rfl)) (iW19 _ (List.mem_of_getElem? (i := 29) rfl)) (iW0 _ (List.mem_of_getElem? (i := 21) rfl)) (iW20 _ (List.mem_of_getElem? (i := 0) rfl)) rfl rfl hdX0_isPair (by decide) rfl (by decide) rfl rfl rfl (Nat.le_of_ble_eq_true rfl) (dk dX0_start_0 11 rfl) ?_
  refine k_if_eq (tgt := 48) C (dk dX0_start_0 12 rfl) (by decide) h (fun h => ?_) (fun h => ?_)
  ·
    exact k_vret C (dk dX0_start_0 28 rfl) h
  ·
    refine k_aload_n C (dk dX0_start_0 13 rfl) rfl 0 rfl ?_
    refine k_getR (q := 33) (D := RX0) (T := TX0) (N := 9) (ci := 0) (k := 4) C iCX0 rfl (by decide) rfl (by decide) (iW1 _ (List.mem_of_getElem? (i := 27) rfl)) rfl (dk dX0_start_0 14 rfl) ?_
    refine k_iload_n C (dk dX0_start_0 15 rfl) rfl 1 rfl ?_
    refine k_iload_n C (dk dX0_start_0 16 rfl) rfl 2 rfl ?_
    refine cl2_k h (fun x6 s5 hc h => ?_)
    refine k_cs (As := [.int a2]) (st := [.int a1, .ref (g.2.2 33)]) C (qX7_bit l g hg hc) (iW20 _ (List.mem_of_getElem? (i := 12) rfl)) (iW14 _ (List.mem_of_getElem? (i := 15) rfl)) (iW7 _ (List.mem_of_getElem? (i := 4) rfl)) (iW14 _ (List.mem_of_getElem? (i := 16) rfl)) rfl rfl hdX7_bit (by decide) rfl rfl (Nat.le_of_ble_eq_true rfl) (dk dX0_start_0 17 rfl) ?_
    refine k_last C rfl rfl (dk dX0_start_0 18 rfl) h (fun s7 h => ?_)
    refine k_aload_n C (dk dX0_start_0 19 rfl) rfl 0 rfl ?_
    refine k_getR (q := 35) (D := RX0) (T := TX0) (N := 9) (ci := 0) (k := 6) C iCX0 rfl (by decide) rfl (by decide) (iW1 _ (List.mem_of_getElem? (i := 29) rfl)) rfl (dk dX0_start_0 20 rfl) ?_
    refine k_iload_n C (dk dX0_start_0 21 rfl) rfl 1 rfl ?_
    refine k_bipush (v := (36 : Int32)) C (dk dX0_start_0 22 rfl) (by decide) ?_
    refine k_imul C (dk dX0_start_0 23 rfl) ?_
    refine k_iload_n C (dk dX0_start_0 24 rfl) rfl 2 rfl ?_
    refine k_iadd C (dk dX0_start_0 25 rfl) ?_
    refine k_iconst (v := (0 : Int32)) C (dk dX0_start_0 26 rfl) (by decide) ?_
    refine k_iast C rfl rfl (dk dX0_start_0 27 rfl) h (fun s8 h => ?_)
    exact k_vret C (dk dX0_start_0 28 rfl) h
set_option maxRecDepth 100000 in
set_option maxHeartbeats 4000000 in
theorem qX7_cellTo (l : Launch) (g : G) (hg : gOK g) {a0 : Int32} {a1 : Int32}  {s0 σe : St} {v : Int32} (h : mX7_cellTo a0 a1 s0 = some (v, σe)) : Mc l g yX7_cellTo cX7_cellTo 2 (some .int) { frames := 1, cells := 0, slots := 0, locals := 21 } [.int a0, .int a1] s0 (some (.int v)) σe := by
  refine k_enter hg pnRX7 rfl (Nat.le_of_ble_eq_true rfl) ?_
  intro WK C
  unfold mX7_cellTo at h
  show WK 0 [(0, .int a0), (1, .int a1)] [] s0
  refine k_iload_n C (dk dX7_cellTo_0 0 rfl) rfl 0 rfl ?_
  refine k_i2l C (dk dX7_cellTo_0 1 rfl) ?_
  refine cl2_k h (fun x2 s1 hc h => ?_)
  refine k_cn (As := [.long a0.toInt64]) (st := []) C (qX10_isCell l g hg hc) (iW5 _ (List.mem_of_getElem? (i := 21) rfl)) rfl rfl (List.mem_of_getElem? (i := 4) rfl) (iW5 _ (List.mem_of_getElem? (i := 20) rfl)) (iW0 _ (List.mem_of_getElem? (i := 2) rfl)) hdX10_isCell (by decide) rfl rfl (Nat.le_of_ble_eq_true rfl) (dk dX7_cellTo_0 2 rfl) ?_
  refine k_if_ne (tgt := 11) C (dk dX7_cellTo_0 3 rfl) (by decide) h (fun h => ?_) (fun h => ?_)
  ·
    refine k_iload_n C (dk dX7_cellTo_0 6 rfl) rfl 1 rfl ?_
    by_cases e0 : a1 = (0 : Int32)
    · replace h := (if_pos e0).symm.trans h
      refine k_tsIn (q := (0 : Int32)) (tgt := 48) C (dk dX7_cellTo_0 7 rfl) (by decide) (by decide) rfl (by decide) e0 ?_
      refine k_iload_n C (dk dX7_cellTo_0 8 rfl) rfl 0 rfl ?_
      exact k_iret C (dk dX7_cellTo_0 9 rfl) h
    replace h := (if_neg e0).symm.trans h
    by_cases e1 : a1 = (1 : Int32)
    · replace h := (if_pos e1).symm.trans h
      refine k_tsIn (q := (1 : Int32)) (tgt := 50) C (dk dX7_cellTo_0 7 rfl) (by decide) (by decide) rfl (by decide) e1 ?_
      refine k_iload_n C (dk dX7_cellTo_0 10 rfl) rfl 0 rfl ?_
      refine k_bipush (v := (6 : Int32)) C (dk dX7_cellTo_0 11 rfl) (by decide) ?_
      refine k_icmp_lt (tgt := 63) C (dk dX7_cellTo_0 12 rfl) (by decide) h (fun h => ?_) (fun h => ?_)
      ·
        refine k_bipush (v := (-4 : Int32)) C (dk dX7_cellTo_0 17 rfl) (by decide) ?_
        exact k_iret C (dk dX7_cellTo_0 18 rfl) h
      ·
        refine k_iload_n C (dk dX7_cellTo_0 13 rfl) rfl 0 rfl ?_
        refine k_bipush (v := (6 : Int32)) C (dk dX7_cellTo_0 14 rfl) (by decide) ?_
        refine k_isub C (dk dX7_cellTo_0 15 rfl) ?_
        refine k_goto (tgt := 65) C (dk dX7_cellTo_0 16 rfl) (by decide) ?_
        exact k_iret C (dk dX7_cellTo_0 18 rfl) h
    replace h := (if_neg e1).symm.trans h
    by_cases e2 : a1 = (2 : Int32)
    · replace h := (if_pos e2).symm.trans h
      refine k_tsIn (q := (2 : Int32)) (tgt := 66) C (dk dX7_cellTo_0 7 rfl) (by decide) (by decide) rfl (by decide) e2 ?_
      refine k_iload_n C (dk dX7_cellTo_0 19 rfl) rfl 0 rfl ?_
      refine k_bipush (v := (6 : Int32)) C (dk dX7_cellTo_0 20 rfl) (by decide) ?_
      refine k_irem C (dk dX7_cellTo_0 21 rfl) (by decide) ?_
      refine k_if_le (tgt := 79) C (dk dX7_cellTo_0 22 rfl) (by decide) h (fun h => ?_) (fun h => ?_)
      ·
        refine k_bipush (v := (-4 : Int32)) C (dk dX7_cellTo_0 27 rfl) (by decide) ?_
        exact k_iret C (dk dX7_cellTo_0 28 rfl) h
      ·
        refine k_iload_n C (dk dX7_cellTo_0 23 rfl) rfl 0 rfl ?_
        refine k_iconst (v := (1 : Int32)) C (dk dX7_cellTo_0 24 rfl) (by decide) ?_
        refine k_isub C (dk dX7_cellTo_0 25 rfl) ?_
        refine k_goto (tgt := 81) C (dk dX7_cellTo_0 26 rfl) (by decide) ?_
        exact k_iret C (dk dX7_cellTo_0 28 rfl) h
    replace h := (if_neg e2).symm.trans h
    by_cases e3 : a1 = (3 : Int32)
    · replace h := (if_pos e3).symm.trans h
      refine k_tsIn (q := (3 : Int32)) (tgt := 82) C (dk dX7_cellTo_0 7 rfl) (by decide) (by decide) rfl (by decide) e3 ?_
      refine k_iload_n C (dk dX7_cellTo_0 29 rfl) rfl 0 rfl ?_
      refine k_bipush (v := (6 : Int32)) C (dk dX7_cellTo_0 30 rfl) (by decide) ?_
      refine k_irem C (dk dX7_cellTo_0 31 rfl) (by decide) ?_
      refine k_iconst (v := (5 : Int32)) C (dk dX7_cellTo_1 0 rfl) (by decide) ?_
      refine k_icmp_ge (tgt := 96) C (dk dX7_cellTo_1 1 rfl) (by decide) h (fun h => ?_) (fun h => ?_)
      ·
        refine k_bipush (v := (-4 : Int32)) C (dk dX7_cellTo_1 6 rfl) (by decide) ?_
        exact k_iret C (dk dX7_cellTo_1 7 rfl) h
      ·
        refine k_iload_n C (dk dX7_cellTo_1 2 rfl) rfl 0 rfl ?_
        refine k_iconst (v := (1 : Int32)) C (dk dX7_cellTo_1 3 rfl) (by decide) ?_
        refine k_iadd C (dk dX7_cellTo_1 4 rfl) ?_
        refine k_goto (tgt := 98) C (dk dX7_cellTo_1 5 rfl) (by decide) ?_
        exact k_iret C (dk dX7_cellTo_1 7 rfl) h
    replace h := (if_neg e3).symm.trans h
    by_cases e4 : a1 = (4 : Int32)
    · replace h := (if_pos e4).symm.trans h
      refine k_tsIn (q := (4 : Int32)) (tgt := 99) C (dk dX7_cellTo_0 7 rfl) (by decide) (by decide) rfl (by decide) e4 ?_
      refine k_iload_n C (dk dX7_cellTo_1 8 rfl) rfl 0 rfl ?_
      refine k_bipush (v := (30 : Int32)) C (dk dX7_cellTo_1 9 rfl) (by decide) ?_
      refine k_icmp_ge (tgt := 112) C (dk dX7_cellTo_1 10 rfl) (by decide) h (fun h => ?_) (fun h => ?_)
      ·
        refine k_bipush (v := (-4 : Int32)) C (dk dX7_cellTo_1 15 rfl) (by decide) ?_
        exact k_iret C (dk dX7_cellTo_1 16 rfl) h
      ·
        refine k_iload_n C (dk dX7_cellTo_1 11 rfl) rfl 0 rfl ?_
        refine k_bipush (v := (6 : Int32)) C (dk dX7_cellTo_1 12 rfl) (by decide) ?_
        refine k_iadd C (dk dX7_cellTo_1 13 rfl) ?_
        refine k_goto (tgt := 114) C (dk dX7_cellTo_1 14 rfl) (by decide) ?_
        exact k_iret C (dk dX7_cellTo_1 16 rfl) h
    replace h := (if_neg e4).symm.trans h
    refine k_tsOut (tgt := 115) C (dk dX7_cellTo_0 7 rfl) (by have n0 : a1.toInt ≠ 0 := fun q => e0 (Int32.toInt_inj.mp (q.trans (by decide))); have n1 : a1.toInt ≠ 1 := fun q => e1 (Int32.toInt_inj.mp (q.trans (by decide))); have n2 : a1.toInt ≠ 2 := fun q => e2 (Int32.toInt_inj.mp (q.trans (by decide))); have n3 : a1.toInt ≠ 3 := fun q => e3 (Int32.toInt_inj.mp (q.trans (by decide))); have n4 : a1.toInt ≠ 4 := fun q => e4 (Int32.toInt_inj.mp (q.trans (by decide))); omega) (by decide) ?_
    refine k_bipush (v := (-4 : Int32)) C (dk dX7_cellTo_1 17 rfl) (by decide) ?_
    exact k_iret C (dk dX7_cellTo_1 18 rfl) h
  ·
    refine k_bipush (v := (-4 : Int32)) C (dk dX7_cellTo_0 4 rfl) (by decide) ?_
    exact k_iret C (dk dX7_cellTo_0 5 rfl) h
set_option maxRecDepth 100000 in
set_option maxHeartbeats 4000000 in
theorem qX0_comeAround (l : Launch) (g : G) (hg : gOK g) {a1 : Int32}  {s0 σe : St} {v : Int64} (h : mX0_comeAround a1 s0 = some (v, σe)) : Mc l g yX0_comeAround cX0_comeAround 6 (some .long) { frames := 2, cells := 0, slots := 0, locals := 42 } [.ref (g.2.2 28), .int a1] s0 (some (.long v)) σe := by
  refine k_enter hg pnRX0 rfl (Nat.le_of_ble_eq_true rfl) ?_
  intro WK C
  unfold mX0_comeAround at h
  show WK 0 [(0, .ref (g.2.2 28)), (1, .int a1)] [] s0
  refine k_lconst (v := (0 : Int64)) C (dk dX0_comeAround_0 0 rfl) (by decide) ?_
  refine k_lstore_n (lv' := [(2, .long (0 : Int64)), (0, .ref (g.2.2 28)), (1, .int a1)]) C (dk dX0_comeAround_0 1 rfl) rfl (by decide) rfl ?_
  refine k_iconst (v := (0 : Int32)) C (dk dX0_comeAround_0 2 rfl) (by decide) ?_
  refine k_istore (lv' := [(4, .int (0 : Int32)), (2, .long (0 : Int64)), (0, .ref (g.2.2 28)), (1, .int a1)]) C (dk dX0_comeAround_0 3 rfl) (by decide) rfl ?_
  refine kl_L (P := (fun J5 => ∀ (y1 : Int64) (y2 : Int32) (s3 : St), J5 y1 y2 s3 = some (v, σe) → WK 5 [(0, .ref (g.2.2 28)), (1, .int a1), (2, .long y1), (4, .int y2)] [] s3)) h (fun _ _ _ h => nomatch h) (fun J5 hJ5 y1 y2 s3 h => ?_) (fun J5 hJ5 h => ?_)
  ·
    unfold mX0_comeAround_5 at h
    refine k_iload C (dk dX0_comeAround_0 4 rfl) 3 rfl ?_
    refine k_iconst (v := (5 : Int32)) C (dk dX0_comeAround_0 5 rfl) (by decide) ?_
    refine k_icmp_ge (tgt := 44) C (dk dX0_comeAround_0 6 rfl) (by decide) h (fun h => ?_) (fun h => ?_)
    ·
      refine k_lload_n C (dk dX0_comeAround_0 24 rfl) rfl 2 rfl ?_
      exact k_lret C (dk dX0_comeAround_0 25 rfl) h
    ·
      refine k_iload_n C (dk dX0_comeAround_0 7 rfl) rfl 1 rfl ?_
      refine k_iload C (dk dX0_comeAround_0 8 rfl) 3 rfl ?_
      refine cl2_k h (fun x5 s4 hc h => ?_)
      refine k_cs (As := [.int a1, .int y2]) (st := []) C (qX7_cellTo l g hg hc) (iW20 _ (List.mem_of_getElem? (i := 22) rfl)) (iW7 _ (List.mem_of_getElem? (i := 3) rfl)) (iW7 _ (List.mem_of_getElem? (i := 4) rfl)) (iW7 _ (List.mem_of_getElem? (i := 5) rfl)) rfl rfl hdX7_cellTo (by decide) rfl rfl (Nat.le_of_ble_eq_true rfl) (dk dX0_comeAround_0 9 rfl) ?_
      refine k_istore (lv' := [(5, .int x5), (0, .ref (g.2.2 28)), (1, .int a1), (2, .long y1), (4, .int y2)]) C (dk dX0_comeAround_0 10 rfl) (by decide) rfl ?_
      refine k_iload C (dk dX0_comeAround_0 11 rfl) 0 rfl ?_
      refine k_i2l C (dk dX0_comeAround_0 12 rfl) ?_
      refine cl2_k h (fun x7 s6 hc h => ?_)
      refine k_cn (As := [.long x5.toInt64]) (st := []) C (qX10_isCell l g hg hc) (iW5 _ (List.mem_of_getElem? (i := 21) rfl)) rfl rfl (List.mem_of_getElem? (i := 5) rfl) (iW5 _ (List.mem_of_getElem? (i := 20) rfl)) (iW0 _ (List.mem_of_getElem? (i := 2) rfl)) hdX10_isCell (by decide) rfl rfl (Nat.le_of_ble_eq_true rfl) (dk dX0_comeAround_0 13 rfl) ?_
      refine kl_J (P := (fun J38 => ∀ (y8 : Int64) (y9 : Int32) (s10 : St), J38 y8 y9 s10 = some (v, σe) → WK 38 [(0, .ref (g.2.2 28)), (1, .int a1), (2, .long y8), (4, .int y9)] [] s10)) h (fun y8 y9 s10 h => ?_) (fun J38 hJ38 h => ?_)
      ·
        unfold mX0_comeAround_38 at h
        refine k_iinc (lv' := [(4, .int (y9 + 1)), (0, .ref (g.2.2 28)), (1, .int a1), (2, .long y8)]) C (dk dX0_comeAround_0 22 rfl) (j := 3) rfl rfl (by decide) rfl ?_
        refine k_goto (tgt := 5) C (dk dX0_comeAround_0 23 rfl) (by decide) ?_
        refine k_sub C [1, 2, 3, 0] rfl ?_
        exact hJ5 _ _ _ h
      ·
        refine k_if_eq (tgt := 38) C (dk dX0_comeAround_0 14 rfl) (by decide) h (fun h => ?_) (fun h => ?_)
        ·
          refine k_sub C [1, 2, 3, 4] rfl ?_
          exact hJ38 _ _ _ h
        ·
          refine k_lload_n C (dk dX0_comeAround_0 15 rfl) rfl 3 rfl ?_
          refine k_aload_n C (dk dX0_comeAround_0 16 rfl) rfl 1 rfl ?_
          refine k_getR (q := 33) (D := RX0) (T := TX0) (N := 9) (ci := 0) (k := 4) C iCX0 rfl (by decide) rfl (by decide) (iW1 _ (List.mem_of_getElem? (i := 27) rfl)) rfl (dk dX0_comeAround_0 17 rfl) ?_
          refine k_iload C (dk dX0_comeAround_0 18 rfl) 0 rfl ?_
          refine k_lald C rfl rfl (dk dX0_comeAround_0 19 rfl) h (fun x11 h => ?_)
          refine k_lor C (dk dX0_comeAround_0 20 rfl) ?_
          refine nmL h (fun x12 h => ?_)
          refine k_lstore_n (lv' := [(2, .long x12), (5, .int x5), (0, .ref (g.2.2 28)), (1, .int a1), (4, .int y2)]) C (dk dX0_comeAround_0 21 rfl) rfl (by decide) rfl ?_
          refine k_sub C [2, 3, 0, 4] rfl ?_
          exact hJ38 _ _ _ h
  ·
    refine k_sub C [2, 3, 1, 0] rfl ?_
    exact hJ5 _ _ _ h
set_option maxRecDepth 100000 in
set_option maxHeartbeats 4000000 in
theorem qX7_spread (l : Launch) (g : G) (hg : gOK g) {a0 : Int64}  {s0 σe : St} {v : Int64} (h : mX7_spread a0 s0 = some (v, σe)) : Mc l g yX7_spread cX7_spread 4 (some .long) { frames := 0, cells := 0, slots := 0, locals := 0 } [.long a0] s0 (some (.long v)) σe := by
  refine k_enter hg pnRX7 rfl (Nat.le_of_ble_eq_true rfl) ?_
  intro WK C
  unfold mX7_spread at h
  show WK 0 [(0, .long a0)] [] s0
  refine k_lload_n C (dk dX7_spread_0 0 rfl) rfl 0 rfl ?_
  refine k_lload_n C (dk dX7_spread_0 1 rfl) rfl 0 rfl ?_
  refine k_ldc2 (v := (-1090785346 : Int64)) C (dk dX7_spread_0 2 rfl) (iW14 _ (List.mem_of_getElem? (i := 27) rfl)) ?_
  refine k_land C (dk dX7_spread_0 3 rfl) ?_
  refine k_iconst (v := (1 : Int32)) C (dk dX7_spread_0 4 rfl) (by decide) ?_
  refine k_lshr C (dk dX7_spread_0 5 rfl) ?_
  refine k_lor C (dk dX7_spread_0 6 rfl) ?_
  refine k_lload_n C (dk dX7_spread_0 7 rfl) rfl 0 rfl ?_
  refine k_ldc2 (v := (-34905131041 : Int64)) C (dk dX7_spread_0 8 rfl) (iW14 _ (List.mem_of_getElem? (i := 28) rfl)) ?_
  refine k_land C (dk dX7_spread_0 9 rfl) ?_
  refine k_iconst (v := (1 : Int32)) C (dk dX7_spread_0 10 rfl) (by decide) ?_
  refine k_lshl C (dk dX7_spread_0 11 rfl) ?_
  refine k_lor C (dk dX7_spread_0 12 rfl) ?_
  refine nmL h (fun x1 h => ?_)
  refine k_lstore_n (lv' := [(2, .long x1), (0, .long a0)]) C (dk dX7_spread_0 13 rfl) rfl (by decide) rfl ?_
  refine k_lload_n C (dk dX7_spread_0 14 rfl) rfl 0 rfl ?_
  refine k_lload_n C (dk dX7_spread_0 15 rfl) rfl 1 rfl ?_
  refine k_bipush (v := (6 : Int32)) C (dk dX7_spread_0 16 rfl) (by decide) ?_
  refine k_lshr C (dk dX7_spread_0 17 rfl) ?_
  refine k_lor C (dk dX7_spread_0 18 rfl) ?_
  refine k_lload_n C (dk dX7_spread_0 19 rfl) rfl 1 rfl ?_
  refine k_bipush (v := (6 : Int32)) C (dk dX7_spread_0 20 rfl) (by decide) ?_
  refine k_lshl C (dk dX7_spread_0 21 rfl) ?_
  refine k_lor C (dk dX7_spread_0 22 rfl) ?_
  refine k_ldc2 (v := (68719476735 : Int64)) C (dk dX7_spread_0 23 rfl) (iW14 _ (List.mem_of_getElem? (i := 29) rfl)) ?_
  refine k_land C (dk dX7_spread_0 24 rfl) ?_
  exact k_lret C (dk dX7_spread_0 25 rfl) h
set_option maxRecDepth 100000 in
set_option maxHeartbeats 4000000 in
theorem qX0_mark (l : Launch) (g : G) (hg : gOK g) {a1 : Int32} {a2 : Int64} {a4 : Int32}  {s0 σe : St} (h : mX0_mark a1 a2 a4 s0 = some σe) : Mc l g yX0_mark cX0_mark 6 none { frames := 2, cells := 0, slots := 0, locals := 42 } [.ref (g.2.2 28), .int a1, .long a2, .int a4] s0 none σe := by
  refine k_enter hg pnRX0 rfl (Nat.le_of_ble_eq_true rfl) ?_
  intro WK C
  unfold mX0_mark at h
  show WK 0 [(0, .ref (g.2.2 28)), (1, .int a1), (2, .long a2), (4, .int a4)] [] s0
  refine k_iconst (v := (0 : Int32)) C (dk dX0_mark_0 0 rfl) (by decide) ?_
  refine k_istore (lv' := [(5, .int (0 : Int32)), (0, .ref (g.2.2 28)), (1, .int a1), (2, .long a2), (4, .int a4)]) C (dk dX0_mark_0 1 rfl) (by decide) rfl ?_
  refine kl_L (P := (fun J3 => ∀ (y1 : Int32) (s2 : St), J3 y1 s2 = some σe → WK 3 [(0, .ref (g.2.2 28)), (1, .int a1), (2, .long a2), (4, .int a4), (5, .int y1)] [] s2)) h (fun _ _ h => nomatch h) (fun J3 hJ3 y1 s2 h => ?_) (fun J3 hJ3 h => ?_)
  ·
    unfold mX0_mark_3 at h
    refine k_iload C (dk dX0_mark_0 2 rfl) 4 rfl ?_
    refine k_bipush (v := (36 : Int32)) C (dk dX0_mark_0 3 rfl) (by decide) ?_
    refine k_icmp_ge (tgt := 47) C (dk dX0_mark_0 4 rfl) (by decide) h (fun h => ?_) (fun h => ?_)
    ·
      exact k_vret C (dk dX0_mark_0 24 rfl) h
    ·
      refine k_iload_n C (dk dX0_mark_0 5 rfl) rfl 1 rfl ?_
      refine k_i2l C (dk dX0_mark_0 6 rfl) ?_
      refine cl2_k h (fun x4 s3 hc h => ?_)
      refine k_cn (As := [.long a1.toInt64]) (st := []) C (qX10_isCell l g hg hc) (iW5 _ (List.mem_of_getElem? (i := 21) rfl)) rfl rfl (List.mem_of_getElem? (i := 5) rfl) (iW5 _ (List.mem_of_getElem? (i := 20) rfl)) (iW0 _ (List.mem_of_getElem? (i := 2) rfl)) hdX10_isCell (by decide) rfl rfl (Nat.le_of_ble_eq_true rfl) (dk dX0_mark_0 7 rfl) ?_
      refine kl_J (P := (fun J41 => ∀ (y5 : Int32) (s6 : St), J41 y5 s6 = some σe → WK 41 [(0, .ref (g.2.2 28)), (1, .int a1), (2, .long a2), (4, .int a4), (5, .int y5)] [] s6)) h (fun y5 s6 h => ?_) (fun J41 hJ41 h => ?_)
      ·
        unfold mX0_mark_41 at h
        refine k_iinc (lv' := [(5, .int (y5 + 1)), (0, .ref (g.2.2 28)), (1, .int a1), (2, .long a2), (4, .int a4)]) C (dk dX0_mark_0 22 rfl) (j := 4) rfl rfl (by decide) rfl ?_
        refine k_goto (tgt := 3) C (dk dX0_mark_0 23 rfl) (by decide) ?_
        refine k_sub C [1, 2, 3, 4, 0] rfl ?_
        exact hJ3 _ _ h
      ·
        refine k_if_eq (tgt := 41) C (dk dX0_mark_0 8 rfl) (by decide) h (fun h => ?_) (fun h => ?_)
        ·
          exact hJ41 _ _ h
        ·
          refine k_lload_n C (dk dX0_mark_0 9 rfl) rfl 2 rfl ?_
          refine k_iload C (dk dX0_mark_0 10 rfl) 4 rfl ?_
          refine cl2_k h (fun x8 s7 hc h => ?_)
          refine k_cs (As := [.long a2, .int y1]) (st := []) C (qX7_has l g hg hc) (iW16 _ (List.mem_of_getElem? (i := 11) rfl)) (iW14 _ (List.mem_of_getElem? (i := 22) rfl)) (iW7 _ (List.mem_of_getElem? (i := 4) rfl)) (iW14 _ (List.mem_of_getElem? (i := 23) rfl)) rfl rfl hdX7_has (by decide) rfl rfl (Nat.le_of_ble_eq_true rfl) (dk dX0_mark_0 11 rfl) ?_
          refine k_if_eq (tgt := 41) C (dk dX0_mark_0 12 rfl) (by decide) h (fun h => ?_) (fun h => ?_)
          ·
            exact hJ41 _ _ h
          ·
            refine k_aload_n C (dk dX0_mark_0 13 rfl) rfl 0 rfl ?_
            refine k_getR (q := 35) (D := RX0) (T := TX0) (N := 9) (ci := 0) (k := 6) C iCX0 rfl (by decide) rfl (by decide) (iW1 _ (List.mem_of_getElem? (i := 29) rfl)) rfl (dk dX0_mark_0 14 rfl) ?_
            refine k_iload_n C (dk dX0_mark_0 15 rfl) rfl 1 rfl ?_
            refine k_bipush (v := (36 : Int32)) C (dk dX0_mark_0 16 rfl) (by decide) ?_
            refine k_imul C (dk dX0_mark_0 17 rfl) ?_
            refine k_iload C (dk dX0_mark_0 18 rfl) 4 rfl ?_
            refine k_iadd C (dk dX0_mark_0 19 rfl) ?_
            refine k_iload C (dk dX0_mark_0 20 rfl) 3 rfl ?_
            refine k_iast C rfl rfl (dk dX0_mark_0 21 rfl) h (fun s9 h => ?_)
            exact hJ41 _ _ h
  ·
    refine k_sub C [1, 2, 3, 4, 0] rfl ?_
    exact hJ3 _ _ h
set_option maxRecDepth 100000 in
set_option maxHeartbeats 4000000 in
theorem qX0_spreadOn (l : Launch) (g : G) (hg : gOK g) {a1 : Int32}  {s0 σe : St} {v : Int32} (h : mX0_spreadOn a1 s0 = some (v, σe)) : Mc l g yX0_spreadOn cX0_spreadOn 4 (some .boolean) { frames := 3, cells := 0, slots := 0, locals := 67 } [.ref (g.2.2 28), .int a1] s0 (some (.int v)) σe := by
  refine k_enter hg pnRX0 rfl (Nat.le_of_ble_eq_true rfl) ?_
  intro WK C
  unfold mX0_spreadOn at h
  show WK 0 [(0, .ref (g.2.2 28)), (1, .int a1)] [] s0
  refine k_iconst (v := (0 : Int32)) C (dk dX0_spreadOn_0 0 rfl) (by decide) ?_
  refine k_istore_n (lv' := [(2, .int (0 : Int32)), (0, .ref (g.2.2 28)), (1, .int a1)]) C (dk dX0_spreadOn_0 1 rfl) rfl (by decide) rfl ?_
  refine kl_L (P := (fun J2 => ∀ (y1 : Int32) (s2 : St), J2 y1 s2 = some (v, σe) → WK 2 [(0, .ref (g.2.2 28)), (1, .int a1), (2, .int y1)] [] s2)) h (fun _ _ h => nomatch h) (fun J2 hJ2 y1 s2 h => ?_) (fun J2 hJ2 h => ?_)
  ·
    unfold mX0_spreadOn_2 at h
    refine k_iload_n C (dk dX0_spreadOn_0 2 rfl) rfl 2 rfl ?_
    refine k_bipush (v := (36 : Int32)) C (dk dX0_spreadOn_0 3 rfl) (by decide) ?_
    refine k_icmp_ge (tgt := 61) C (dk dX0_spreadOn_0 4 rfl) (by decide) h (fun h => ?_) (fun h => ?_)
    ·
      refine k_iconst (v := (0 : Int32)) C (dk dX0_spreadOn_1 4 rfl) (by decide) ?_
      refine k_istore_n (lv' := [(2, .int (0 : Int32)), (0, .ref (g.2.2 28)), (1, .int a1)]) C (dk dX0_spreadOn_1 5 rfl) rfl (by decide) rfl ?_
      refine k_iconst (v := (0 : Int32)) C (dk dX0_spreadOn_1 6 rfl) (by decide) ?_
      refine k_istore_n (lv' := [(3, .int (0 : Int32)), (2, .int (0 : Int32)), (0, .ref (g.2.2 28)), (1, .int a1)]) C (dk dX0_spreadOn_1 7 rfl) rfl (by decide) rfl ?_
      refine kl_L (P := (fun J65 => ∀ (y3 : Int32) (y4 : Int32) (s5 : St), J65 y3 y4 s5 = some (v, σe) → WK 65 [(0, .ref (g.2.2 28)), (1, .int a1), (2, .int y3), (3, .int y4)] [] s5)) h (fun _ _ _ h => nomatch h) (fun J65 hJ65 y3 y4 s5 h => ?_) (fun J65 hJ65 h => ?_)
      ·
        unfold mX0_spreadOn_65 at h
        refine k_iload_n C (dk dX0_spreadOn_1 8 rfl) rfl 3 rfl ?_
        refine k_bipush (v := (36 : Int32)) C (dk dX0_spreadOn_1 9 rfl) (by decide) ?_
        refine k_icmp_ge (tgt := 117) C (dk dX0_spreadOn_1 10 rfl) (by decide) h (fun h => ?_) (fun h => ?_)
        ·
          refine k_iload_n C (dk dX0_spreadOn_2 9 rfl) rfl 2 rfl ?_
          exact k_zret C (dk dX0_spreadOn_2 10 rfl) h
        ·
          refine k_aload_n C (dk dX0_spreadOn_1 11 rfl) rfl 0 rfl ?_
          refine k_getR (q := 34) (D := RX0) (T := TX0) (N := 9) (ci := 0) (k := 5) C iCX0 rfl (by decide) rfl (by decide) (iW1 _ (List.mem_of_getElem? (i := 28) rfl)) rfl (dk dX0_spreadOn_1 12 rfl) ?_
          refine k_iload_n C (dk dX0_spreadOn_1 13 rfl) rfl 3 rfl ?_
          refine k_lald C rfl rfl (dk dX0_spreadOn_1 14 rfl) h (fun x6 h => ?_)
          refine k_lconst (v := (0 : Int64)) C (dk dX0_spreadOn_1 15 rfl) (by decide) ?_
          refine k_lcmp C (dk dX0_spreadOn_1 16 rfl) ?_
          refine kl_J (P := (fun J111 => ∀ (y7 : Int32) (y8 : Int32) (s9 : St), J111 y7 y8 s9 = some (v, σe) → WK 111 [(0, .ref (g.2.2 28)), (1, .int a1), (2, .int y7), (3, .int y8)] [] s9)) h (fun y7 y8 s9 h => ?_) (fun J111 hJ111 h => ?_)
          ·
            unfold mX0_spreadOn_111 at h
            refine k_iinc (lv' := [(3, .int (y8 + 1)), (0, .ref (g.2.2 28)), (1, .int a1), (2, .int y7)]) C (dk dX0_spreadOn_2 7 rfl) (j := 3) rfl rfl (by decide) rfl ?_
            refine k_goto (tgt := 65) C (dk dX0_spreadOn_2 8 rfl) (by decide) ?_
            refine k_sub C [1, 2, 3, 0] rfl ?_
            exact hJ65 _ _ _ h
          ·
            refine k_if_eq (tgt := 111) C (dk dX0_spreadOn_1 17 rfl) (by decide) h (fun h => ?_) (fun h => ?_)
            ·
              exact hJ111 _ _ _ h
            ·
              refine k_iconst (v := (1 : Int32)) C (dk dX0_spreadOn_1 18 rfl) (by decide) ?_
              refine k_istore_n (lv' := [(2, .int (1 : Int32)), (0, .ref (g.2.2 28)), (1, .int a1), (3, .int y4)]) C (dk dX0_spreadOn_1 19 rfl) rfl (by decide) rfl ?_
              refine k_aload_n C (dk dX0_spreadOn_1 20 rfl) rfl 1 rfl ?_
              refine k_getR (q := 33) (D := RX0) (T := TX0) (N := 9) (ci := 0) (k := 4) C iCX0 rfl (by decide) rfl (by decide) (iW1 _ (List.mem_of_getElem? (i := 27) rfl)) rfl (dk dX0_spreadOn_1 21 rfl) ?_
              refine k_iload_n C (dk dX0_spreadOn_1 22 rfl) rfl 3 rfl ?_
              refine k_dup2 C (dk dX0_spreadOn_1 23 rfl) rfl rfl ?_
              refine k_lald C rfl rfl (dk dX0_spreadOn_1 24 rfl) h (fun x10 h => ?_)
              refine k_aload_n C (dk dX0_spreadOn_1 25 rfl) rfl 1 rfl ?_
              refine k_getR (q := 34) (D := RX0) (T := TX0) (N := 9) (ci := 0) (k := 5) C iCX0 rfl (by decide) rfl (by decide) (iW1 _ (List.mem_of_getElem? (i := 28) rfl)) rfl (dk dX0_spreadOn_1 26 rfl) ?_
              refine k_iload_n C (dk dX0_spreadOn_1 27 rfl) rfl 3 rfl ?_
              refine k_lald C rfl rfl (dk dX0_spreadOn_1 28 rfl) h (fun x11 h => ?_)
              refine k_lor C (dk dX0_spreadOn_1 29 rfl) ?_
              refine k_last C rfl rfl (dk dX0_spreadOn_1 30 rfl) h (fun s12 h => ?_)
              refine k_aload_n C (dk dX0_spreadOn_1 31 rfl) rfl 1 rfl ?_
              refine k_iload_n C (dk dX0_spreadOn_2 0 rfl) rfl 3 rfl ?_
              refine k_aload_n C (dk dX0_spreadOn_2 1 rfl) rfl 1 rfl ?_
              refine k_getR (q := 34) (D := RX0) (T := TX0) (N := 9) (ci := 0) (k := 5) C iCX0 rfl (by decide) rfl (by decide) (iW1 _ (List.mem_of_getElem? (i := 28) rfl)) rfl (dk dX0_spreadOn_2 2 rfl) ?_
              refine k_iload_n C (dk dX0_spreadOn_2 3 rfl) rfl 3 rfl ?_
              refine k_lald C rfl rfl (dk dX0_spreadOn_2 4 rfl) h (fun x13 h => ?_)
              refine k_iload_n C (dk dX0_spreadOn_2 5 rfl) rfl 2 rfl ?_
              refine cl1_k h (fun s14 hc h => ?_)
              refine k_cv (T := TX0) (N := 9) (ci := 0) (ob := 28) (As := [.int y4, .long x13, .int a1]) (st := []) C (qX0_mark l g hg hc) (iW20 _ (List.mem_of_getElem? (i := 24) rfl)) (iW20 _ (List.mem_of_getElem? (i := 25) rfl)) (iW20 _ (List.mem_of_getElem? (i := 26) rfl)) (iW0 _ (List.mem_of_getElem? (i := 21) rfl)) (iW20 _ (List.mem_of_getElem? (i := 27) rfl)) rfl rfl hdX0_mark (by decide) rfl (by decide) rfl rfl rfl (Nat.le_of_ble_eq_true rfl) (dk dX0_spreadOn_2 6 rfl) ?_
              refine k_sub C [1, 2, 0, 3] rfl ?_
              exact hJ111 _ _ _ h
      ·
        refine k_sub C [2, 3, 1, 0] rfl ?_
        exact hJ65 _ _ _ h
    ·
      refine k_aload_n C (dk dX0_spreadOn_0 5 rfl) rfl 0 rfl ?_
      refine k_getR (q := 34) (D := RX0) (T := TX0) (N := 9) (ci := 0) (k := 5) C iCX0 rfl (by decide) rfl (by decide) (iW1 _ (List.mem_of_getElem? (i := 28) rfl)) rfl (dk dX0_spreadOn_0 6 rfl) ?_
      refine k_iload_n C (dk dX0_spreadOn_0 7 rfl) rfl 2 rfl ?_
      refine k_aload_n C (dk dX0_spreadOn_0 8 rfl) rfl 0 rfl ?_
      refine k_getR (q := 32) (D := RX0) (T := TX0) (N := 9) (ci := 0) (k := 3) C iCX0 rfl (by decide) rfl (by decide) (iW1 _ (List.mem_of_getElem? (i := 26) rfl)) rfl (dk dX0_spreadOn_0 9 rfl) ?_
      refine k_iload_n C (dk dX0_spreadOn_0 10 rfl) rfl 2 rfl ?_
      refine k_lald C rfl rfl (dk dX0_spreadOn_0 11 rfl) h (fun x15 h => ?_)
      refine k_lconst (v := (0 : Int64)) C (dk dX0_spreadOn_0 12 rfl) (by decide) ?_
      refine k_lcmp C (dk dX0_spreadOn_0 13 rfl) ?_
      refine kl_J (P := (fun J54 => ∀ (y16 : Int64) (s17 : St), J54 y16 s17 = some (v, σe) → WK 54 [(0, .ref (g.2.2 28)), (1, .int a1), (2, .int y1)] [.long y16, .int y1, .ref (g.2.2 34)] s17)) h (fun y16 s17 h => ?_) (fun J54 hJ54 h => ?_)
      ·
        unfold mX0_spreadOn_54 at h
        refine k_last C rfl rfl (dk dX0_spreadOn_1 1 rfl) h (fun s18 h => ?_)
        refine k_iinc (lv' := [(2, .int (y1 + 1)), (0, .ref (g.2.2 28)), (1, .int a1)]) C (dk dX0_spreadOn_1 2 rfl) (j := 2) rfl rfl (by decide) rfl ?_
        refine k_goto (tgt := 2) C (dk dX0_spreadOn_1 3 rfl) (by decide) ?_
        refine k_sub C [1, 2, 0] rfl ?_
        exact hJ2 _ _ h
      ·
        refine k_if_ne (tgt := 28) C (dk dX0_spreadOn_0 14 rfl) (by decide) h (fun h => ?_) (fun h => ?_)
        ·
          refine k_aload_n C (dk dX0_spreadOn_0 17 rfl) rfl 0 rfl ?_
          refine k_iload_n C (dk dX0_spreadOn_0 18 rfl) rfl 2 rfl ?_
          refine cl2_k h (fun x20 s19 hc h => ?_)
          refine k_cv (T := TX0) (N := 9) (ci := 0) (ob := 28) (As := [.int y1]) (st := [.int y1, .ref (g.2.2 34)]) C (qX0_comeAround l g hg hc) (iW20 _ (List.mem_of_getElem? (i := 18) rfl)) (iW20 _ (List.mem_of_getElem? (i := 19) rfl)) (iW20 _ (List.mem_of_getElem? (i := 20) rfl)) (iW0 _ (List.mem_of_getElem? (i := 21) rfl)) (iW20 _ (List.mem_of_getElem? (i := 21) rfl)) rfl rfl hdX0_comeAround (by decide) rfl (by decide) rfl rfl rfl (Nat.le_of_ble_eq_true rfl) (dk dX0_spreadOn_0 19 rfl) ?_
          refine cl2_k h (fun x22 s21 hc h => ?_)
          refine k_cs (As := [.long x20]) (st := [.int y1, .ref (g.2.2 34)]) C (qX7_spread l g hg hc) (iW20 _ (List.mem_of_getElem? (i := 23) rfl)) (iW14 _ (List.mem_of_getElem? (i := 25) rfl)) (iW7 _ (List.mem_of_getElem? (i := 4) rfl)) (iW14 _ (List.mem_of_getElem? (i := 26) rfl)) rfl rfl hdX7_spread (by decide) rfl rfl (Nat.le_of_ble_eq_true rfl) (dk dX0_spreadOn_0 20 rfl) ?_
          refine k_aload_n C (dk dX0_spreadOn_0 21 rfl) rfl 0 rfl ?_
          refine k_getR (q := 32) (D := RX0) (T := TX0) (N := 9) (ci := 0) (k := 3) C iCX0 rfl (by decide) rfl (by decide) (iW1 _ (List.mem_of_getElem? (i := 26) rfl)) rfl (dk dX0_spreadOn_0 22 rfl) ?_
          refine k_iload_n C (dk dX0_spreadOn_0 23 rfl) rfl 2 rfl ?_
          refine k_lald C rfl rfl (dk dX0_spreadOn_0 24 rfl) h (fun x23 h => ?_)
          refine k_land C (dk dX0_spreadOn_0 25 rfl) ?_
          refine k_aload_n C (dk dX0_spreadOn_0 26 rfl) rfl 0 rfl ?_
          refine k_getR (q := 33) (D := RX0) (T := TX0) (N := 9) (ci := 0) (k := 4) C iCX0 rfl (by decide) rfl (by decide) (iW1 _ (List.mem_of_getElem? (i := 27) rfl)) rfl (dk dX0_spreadOn_0 27 rfl) ?_
          refine k_iload_n C (dk dX0_spreadOn_0 28 rfl) rfl 2 rfl ?_
          refine k_lald C rfl rfl (dk dX0_spreadOn_0 29 rfl) h (fun x24 h => ?_)
          refine k_ldc2 (v := (-1 : Int64)) C (dk dX0_spreadOn_0 30 rfl) (iW20 _ (List.mem_of_getElem? (i := 17) rfl)) ?_
          refine k_lxor C (dk dX0_spreadOn_0 31 rfl) ?_
          refine k_land C (dk dX0_spreadOn_1 0 rfl) ?_
          exact hJ54 _ _ h
        ·
          refine k_lconst (v := (0 : Int64)) C (dk dX0_spreadOn_0 15 rfl) (by decide) ?_
          refine k_goto (tgt := 54) C (dk dX0_spreadOn_0 16 rfl) (by decide) ?_
          exact hJ54 _ _ h
  ·
    refine k_sub C [1, 2, 0] rfl ?_
    exact hJ2 _ _ h
set_option maxRecDepth 100000 in
set_option maxHeartbeats 4000000 in
theorem qX0_daysBetween (l : Launch) (g : G) (hg : gOK g) {a1 : Int32} {a2 : Int32} {a3 : Int32} {a4 : Int32}  {s0 σe : St} {v : Int32} (h : mX0_daysBetween a1 a2 a3 a4 s0 = some (v, σe)) : Mc l g yX0_daysBetween cX0_daysBetween 6 (some .int) { frames := 4, cells := 0, slots := 0, locals := 90 } [.ref (g.2.2 28), .int a1, .int a2, .int a3, .int a4] s0 (some (.int v)) σe := by
  refine k_enter hg pnRX0 rfl (Nat.le_of_ble_eq_true rfl) ?_
  intro WK C
  unfold mX0_daysBetween at h
  show WK 0 [(0, .ref (g.2.2 28)), (1, .int a1), (2, .int a2), (3, .int a3), (4, .int a4)] [] s0
  refine k_aload_n C (dk dX0_daysBetween_0 0 rfl) rfl 0 rfl ?_
  refine k_iload_n C (dk dX0_daysBetween_0 1 rfl) rfl 1 rfl ?_
  refine k_iload_n C (dk dX0_daysBetween_0 2 rfl) rfl 2 rfl ?_
  refine cl2_k h (fun x2 s1 hc h => ?_)
  refine k_cv (T := TX0) (N := 9) (ci := 0) (ob := 28) (As := [.int a1, .int a2]) (st := []) C (qX0_isPair l g hg hc) (iW19 _ (List.mem_of_getElem? (i := 27) rfl)) (iW19 _ (List.mem_of_getElem? (i := 28) rfl)) (iW19 _ (List.mem_of_getElem? (i := 29) rfl)) (iW0 _ (List.mem_of_getElem? (i := 21) rfl)) (iW20 _ (List.mem_of_getElem? (i := 0) rfl)) rfl rfl hdX0_isPair (by decide) rfl (by decide) rfl rfl rfl (Nat.le_of_ble_eq_true rfl) (dk dX0_daysBetween_0 3 rfl) ?_
  refine k_if_eq (tgt := 19) C (dk dX0_daysBetween_0 4 rfl) (by decide) h (fun h => ?_) (fun h => ?_)
  ·
    refine k_bipush (v := (-4 : Int32)) C (dk dX0_daysBetween_0 10 rfl) (by decide) ?_
    exact k_iret C (dk dX0_daysBetween_0 11 rfl) h
  ·
    refine k_aload_n C (dk dX0_daysBetween_0 5 rfl) rfl 0 rfl ?_
    refine k_iload_n C (dk dX0_daysBetween_0 6 rfl) rfl 3 rfl ?_
    refine k_iload C (dk dX0_daysBetween_0 7 rfl) 4 rfl ?_
    refine cl2_k h (fun x4 s3 hc h => ?_)
    refine k_cv (T := TX0) (N := 9) (ci := 0) (ob := 28) (As := [.int a3, .int a4]) (st := []) C (qX0_isPair l g hg hc) (iW19 _ (List.mem_of_getElem? (i := 27) rfl)) (iW19 _ (List.mem_of_getElem? (i := 28) rfl)) (iW19 _ (List.mem_of_getElem? (i := 29) rfl)) (iW0 _ (List.mem_of_getElem? (i := 21) rfl)) (iW20 _ (List.mem_of_getElem? (i := 0) rfl)) rfl rfl hdX0_isPair (by decide) rfl (by decide) rfl rfl rfl (Nat.le_of_ble_eq_true rfl) (dk dX0_daysBetween_0 8 rfl) ?_
    refine k_if_ne (tgt := 22) C (dk dX0_daysBetween_0 9 rfl) (by decide) h (fun h => ?_) (fun h => ?_)
    ·
      refine k_aload_n C (dk dX0_daysBetween_0 12 rfl) rfl 0 rfl ?_
      refine k_iload_n C (dk dX0_daysBetween_0 13 rfl) rfl 3 rfl ?_
      refine k_iload C (dk dX0_daysBetween_0 14 rfl) 4 rfl ?_
      refine cl1_k h (fun s5 hc h => ?_)
      refine k_cv (T := TX0) (N := 9) (ci := 0) (ob := 28) (As := [.int a3, .int a4]) (st := []) C (qX0_start l g hg hc) (iW20 _ (List.mem_of_getElem? (i := 1) rfl)) (iW20 _ (List.mem_of_getElem? (i := 2) rfl)) (iW20 _ (List.mem_of_getElem? (i := 3) rfl)) (iW0 _ (List.mem_of_getElem? (i := 21) rfl)) (iW20 _ (List.mem_of_getElem? (i := 4) rfl)) rfl rfl hdX0_start (by decide) rfl (by decide) rfl rfl rfl (Nat.le_of_ble_eq_true rfl) (dk dX0_daysBetween_0 15 rfl) ?_
      refine k_iconst (v := (0 : Int32)) C (dk dX0_daysBetween_0 16 rfl) (by decide) ?_
      refine k_istore (lv' := [(5, .int (0 : Int32)), (0, .ref (g.2.2 28)), (1, .int a1), (2, .int a2), (3, .int a3), (4, .int a4)]) C (dk dX0_daysBetween_0 17 rfl) (by decide) rfl ?_
      refine kl_L (P := (fun J32 => ∀ (y6 : Int32) (s7 : St), J32 y6 s7 = some (v, σe) → WK 32 [(0, .ref (g.2.2 28)), (1, .int a1), (2, .int a2), (5, .int y6)] [] s7)) h (fun _ _ h => nomatch h) (fun J32 hJ32 y6 s7 h => ?_) (fun J32 hJ32 h => ?_)
      ·
        unfold mX0_daysBetween_32 at h
        refine k_iload C (dk dX0_daysBetween_0 18 rfl) 3 rfl ?_
        refine k_sipush (v := (1296 : Int32)) C (dk dX0_daysBetween_0 19 rfl) (by decide) ?_
        refine k_icmp_ge (tgt := 76) C (dk dX0_daysBetween_0 20 rfl) (by decide) h (fun h => ?_) (fun h => ?_)
        ·
          refine k_bipush (v := (-4 : Int32)) C (dk dX0_daysBetween_1 8 rfl) (by decide) ?_
          exact k_iret C (dk dX0_daysBetween_1 9 rfl) h
        ·
          refine k_aload_n C (dk dX0_daysBetween_0 21 rfl) rfl 0 rfl ?_
          refine k_getR (q := 33) (D := RX0) (T := TX0) (N := 9) (ci := 0) (k := 4) C iCX0 rfl (by decide) rfl (by decide) (iW1 _ (List.mem_of_getElem? (i := 27) rfl)) rfl (dk dX0_daysBetween_0 22 rfl) ?_
          refine k_iload_n C (dk dX0_daysBetween_0 23 rfl) rfl 1 rfl ?_
          refine k_lald C rfl rfl (dk dX0_daysBetween_0 24 rfl) h (fun x8 h => ?_)
          refine k_iload_n C (dk dX0_daysBetween_0 25 rfl) rfl 2 rfl ?_
          refine cl2_k h (fun x10 s9 hc h => ?_)
          refine k_cs (As := [.long x8, .int a2]) (st := []) C (qX7_has l g hg hc) (iW16 _ (List.mem_of_getElem? (i := 11) rfl)) (iW14 _ (List.mem_of_getElem? (i := 22) rfl)) (iW7 _ (List.mem_of_getElem? (i := 4) rfl)) (iW14 _ (List.mem_of_getElem? (i := 23) rfl)) rfl rfl hdX7_has (by decide) rfl rfl (Nat.le_of_ble_eq_true rfl) (dk dX0_daysBetween_0 26 rfl) ?_
          refine k_if_eq (tgt := 56) C (dk dX0_daysBetween_0 27 rfl) (by decide) h (fun h => ?_) (fun h => ?_)
          ·
            refine k_aload_n C (dk dX0_daysBetween_0 30 rfl) rfl 0 rfl ?_
            refine k_iload C (dk dX0_daysBetween_0 31 rfl) 3 rfl ?_
            refine k_iconst (v := (1 : Int32)) C (dk dX0_daysBetween_1 0 rfl) (by decide) ?_
            refine k_iadd C (dk dX0_daysBetween_1 1 rfl) ?_
            refine cl2_k h (fun x12 s11 hc h => ?_)
            refine k_cv (T := TX0) (N := 9) (ci := 0) (ob := 28) (As := [.int (y6 + (1 : Int32))]) (st := []) C (qX0_spreadOn l g hg hc) (iW20 _ (List.mem_of_getElem? (i := 13) rfl)) (iW20 _ (List.mem_of_getElem? (i := 14) rfl)) (iW20 _ (List.mem_of_getElem? (i := 15) rfl)) (iW0 _ (List.mem_of_getElem? (i := 21) rfl)) (iW20 _ (List.mem_of_getElem? (i := 16) rfl)) rfl rfl hdX0_spreadOn (by decide) rfl (by decide) rfl rfl rfl (Nat.le_of_ble_eq_true rfl) (dk dX0_daysBetween_1 2 rfl) ?_
            refine k_if_ne (tgt := 70) C (dk dX0_daysBetween_1 3 rfl) (by decide) h (fun h => ?_) (fun h => ?_)
            ·
              refine k_iinc (lv' := [(5, .int (y6 + 1)), (0, .ref (g.2.2 28)), (1, .int a1), (2, .int a2)]) C (dk dX0_daysBetween_1 6 rfl) (j := 3) rfl rfl (by decide) rfl ?_
              refine k_goto (tgt := 32) C (dk dX0_daysBetween_1 7 rfl) (by decide) ?_
              refine k_sub C [1, 2, 3, 0] rfl ?_
              exact hJ32 _ _ h
            ·
              refine k_bipush (v := (-4 : Int32)) C (dk dX0_daysBetween_1 4 rfl) (by decide) ?_
              exact k_iret C (dk dX0_daysBetween_1 5 rfl) h
          ·
            refine k_iload C (dk dX0_daysBetween_0 28 rfl) 3 rfl ?_
            exact k_iret C (dk dX0_daysBetween_0 29 rfl) h
      ·
        refine k_sub C [1, 2, 3, 0] rfl ?_
        exact hJ32 _ _ h
    ·
      refine k_bipush (v := (-4 : Int32)) C (dk dX0_daysBetween_0 10 rfl) (by decide) ?_
      exact k_iret C (dk dX0_daysBetween_0 11 rfl) h
set_option maxRecDepth 100000 in
set_option maxHeartbeats 4000000 in
theorem qX0_daysLeft (l : Launch) (g : G) (hg : gOK g) {a1 : Int32} {a2 : Int32}  {s0 σe : St} {v : Int32} (h : mX0_daysLeft a1 a2 s0 = some (v, σe)) : Mc l g yX0_daysLeft cX0_daysLeft 3 (some .int) { frames := 1, cells := 0, slots := 0, locals := 21 } [.ref (g.2.2 28), .int a1, .int a2] s0 (some (.int v)) σe := by
  refine k_enter hg pnRX0 rfl (Nat.le_of_ble_eq_true rfl) ?_
  intro WK C
  unfold mX0_daysLeft at h
  show WK 0 [(0, .ref (g.2.2 28)), (1, .int a1), (2, .int a2)] [] s0
  refine k_iload_n C (dk dX0_daysLeft_0 0 rfl) rfl 1 rfl ?_
  refine k_i2l C (dk dX0_daysLeft_0 1 rfl) ?_
  refine cl2_k h (fun x2 s1 hc h => ?_)
  refine k_cn (As := [.long a1.toInt64]) (st := []) C (qX10_isCell l g hg hc) (iW5 _ (List.mem_of_getElem? (i := 21) rfl)) rfl rfl (List.mem_of_getElem? (i := 5) rfl) (iW5 _ (List.mem_of_getElem? (i := 20) rfl)) (iW0 _ (List.mem_of_getElem? (i := 2) rfl)) hdX10_isCell (by decide) rfl rfl (Nat.le_of_ble_eq_true rfl) (dk dX0_daysLeft_0 2 rfl) ?_
  refine k_if_eq (tgt := 30) C (dk dX0_daysLeft_0 3 rfl) (by decide) h (fun h => ?_) (fun h => ?_)
  ·
    refine k_bipush (v := (-4 : Int32)) C (dk dX0_daysLeft_0 17 rfl) (by decide) ?_
    exact k_iret C (dk dX0_daysLeft_0 18 rfl) h
  ·
    refine k_iload_n C (dk dX0_daysLeft_0 4 rfl) rfl 2 rfl ?_
    refine k_i2l C (dk dX0_daysLeft_0 5 rfl) ?_
    refine cl2_k h (fun x4 s3 hc h => ?_)
    refine k_cn (As := [.long a2.toInt64]) (st := []) C (qX10_isCell l g hg hc) (iW5 _ (List.mem_of_getElem? (i := 21) rfl)) rfl rfl (List.mem_of_getElem? (i := 5) rfl) (iW5 _ (List.mem_of_getElem? (i := 20) rfl)) (iW0 _ (List.mem_of_getElem? (i := 2) rfl)) hdX10_isCell (by decide) rfl rfl (Nat.le_of_ble_eq_true rfl) (dk dX0_daysLeft_0 6 rfl) ?_
    refine k_if_eq (tgt := 30) C (dk dX0_daysLeft_0 7 rfl) (by decide) h (fun h => ?_) (fun h => ?_)
    ·
      refine k_bipush (v := (-4 : Int32)) C (dk dX0_daysLeft_0 17 rfl) (by decide) ?_
      exact k_iret C (dk dX0_daysLeft_0 18 rfl) h
    ·
      refine k_aload_n C (dk dX0_daysLeft_0 8 rfl) rfl 0 rfl ?_
      refine k_getR (q := 35) (D := RX0) (T := TX0) (N := 9) (ci := 0) (k := 6) C iCX0 rfl (by decide) rfl (by decide) (iW1 _ (List.mem_of_getElem? (i := 29) rfl)) rfl (dk dX0_daysLeft_0 9 rfl) ?_
      refine k_iload_n C (dk dX0_daysLeft_0 10 rfl) rfl 1 rfl ?_
      refine k_bipush (v := (36 : Int32)) C (dk dX0_daysLeft_0 11 rfl) (by decide) ?_
      refine k_imul C (dk dX0_daysLeft_0 12 rfl) ?_
      refine k_iload_n C (dk dX0_daysLeft_0 13 rfl) rfl 2 rfl ?_
      refine k_iadd C (dk dX0_daysLeft_0 14 rfl) ?_
      refine k_iald C rfl rfl (dk dX0_daysLeft_0 15 rfl) h (fun x5 h => ?_)
      refine k_goto (tgt := 32) C (dk dX0_daysLeft_0 16 rfl) (by decide) ?_
      exact k_iret C (dk dX0_daysLeft_0 18 rfl) h
set_option maxRecDepth 100000 in
set_option maxHeartbeats 4000000 in
theorem qX0_nextPair (l : Launch) (g : G) (hg : gOK g) {a1 : Int32} {a2 : Int32}  {s0 σe : St} {v : Int32} (h : mX0_nextPair a1 a2 s0 = some (v, σe)) : Mc l g yX0_nextPair cX0_nextPair 10 (some .int) { frames := 2, cells := 0, slots := 0, locals := 43 } [.ref (g.2.2 28), .int a1, .int a2] s0 (some (.int v)) σe := by
  refine k_enter hg pnRX0 rfl (Nat.le_of_ble_eq_true rfl) ?_
  intro WK C
  unfold mX0_nextPair at h
  show WK 0 [(0, .ref (g.2.2 28)), (1, .int a1), (2, .int a2)] [] s0
  refine k_aload_n C (dk dX0_nextPair_0 0 rfl) rfl 0 rfl ?_
  refine k_iload_n C (dk dX0_nextPair_0 1 rfl) rfl 1 rfl ?_
  refine k_iload_n C (dk dX0_nextPair_0 2 rfl) rfl 2 rfl ?_
  refine cl2_k h (fun x2 s1 hc h => ?_)
  refine k_cv (T := TX0) (N := 9) (ci := 0) (ob := 28) (As := [.int a1, .int a2]) (st := []) C (qX0_daysLeft l g hg hc) (iW22 _ (List.mem_of_getElem? (i := 0) rfl)) (iW22 _ (List.mem_of_getElem? (i := 1) rfl)) (iW22 _ (List.mem_of_getElem? (i := 2) rfl)) (iW0 _ (List.mem_of_getElem? (i := 21) rfl)) (iW22 _ (List.mem_of_getElem? (i := 3) rfl)) rfl rfl hdX0_daysLeft (by decide) rfl (by decide) rfl rfl rfl (Nat.le_of_ble_eq_true rfl) (dk dX0_nextPair_0 3 rfl) ?_
  refine k_iconst (v := (1 : Int32)) C (dk dX0_nextPair_0 4 rfl) (by decide) ?_
  refine k_isub C (dk dX0_nextPair_0 5 rfl) ?_
  refine nmI h (fun x3 h => ?_)
  refine k_istore_n (lv' := [(3, .int x3), (0, .ref (g.2.2 28)), (1, .int a1), (2, .int a2)]) C (dk dX0_nextPair_0 6 rfl) rfl (by decide) rfl ?_
  refine k_bipush (v := (-4 : Int32)) C (dk dX0_nextPair_0 7 rfl) (by decide) ?_
  refine k_istore (lv' := [(4, .int (-4 : Int32)), (3, .int x3), (0, .ref (g.2.2 28)), (1, .int a1), (2, .int a2)]) C (dk dX0_nextPair_0 8 rfl) (by decide) rfl ?_
  refine k_iconst (v := (0 : Int32)) C (dk dX0_nextPair_0 9 rfl) (by decide) ?_
  refine k_istore (lv' := [(5, .int (0 : Int32)), (4, .int (-4 : Int32)), (3, .int x3), (0, .ref (g.2.2 28)), (1, .int a1), (2, .int a2)]) C (dk dX0_nextPair_0 10 rfl) (by decide) rfl ?_
  refine kl_L (P := (fun J16 => ∀ (y4 : Int32) (y5 : Int32) (s6 : St), J16 y4 y5 s6 = some (v, σe) → WK 16 [(0, .ref (g.2.2 28)), (1, .int a1), (2, .int a2), (3, .int x3), (4, .int y4), (5, .int y5)] [] s6)) h (fun _ _ _ h => nomatch h) (fun J16 hJ16 y4 y5 s6 h => ?_) (fun J16 hJ16 h => ?_)
  ·
    unfold mX0_nextPair_16 at h
    refine k_iload C (dk dX0_nextPair_0 11 rfl) 5 rfl ?_
    refine k_iconst (v := (5 : Int32)) C (dk dX0_nextPair_0 12 rfl) (by decide) ?_
    refine k_icmp_ge (tgt := 103) C (dk dX0_nextPair_0 13 rfl) (by decide) h (fun h => ?_) (fun h => ?_)
    ·
      refine k_iload C (dk dX0_nextPair_1 21 rfl) 4 rfl ?_
      exact k_iret C (dk dX0_nextPair_1 22 rfl) h
    ·
      refine k_iconst (v := (0 : Int32)) C (dk dX0_nextPair_0 14 rfl) (by decide) ?_
      refine k_istore (lv' := [(6, .int (0 : Int32)), (0, .ref (g.2.2 28)), (1, .int a1), (2, .int a2), (3, .int x3), (4, .int y4), (5, .int y5)]) C (dk dX0_nextPair_0 15 rfl) (by decide) rfl ?_
      refine kl_L (P := (fun J25 => ∀ (y7 : Int32) (y8 : Int32) (s9 : St), J25 y7 y8 s9 = some (v, σe) → WK 25 [(0, .ref (g.2.2 28)), (1, .int a1), (2, .int a2), (3, .int x3), (4, .int y7), (5, .int y5), (6, .int y8)] [] s9)) h (fun _ _ _ h => nomatch h) (fun J25 hJ25 y7 y8 s9 h => ?_) (fun J25 hJ25 h => ?_)
      ·
        unfold mX0_nextPair_25 at h
        refine k_iload C (dk dX0_nextPair_0 16 rfl) 6 rfl ?_
        refine k_iconst (v := (5 : Int32)) C (dk dX0_nextPair_0 17 rfl) (by decide) ?_
        refine k_icmp_ge (tgt := 97) C (dk dX0_nextPair_0 18 rfl) (by decide) h (fun h => ?_) (fun h => ?_)
        ·
          refine k_iinc (lv' := [(5, .int (y5 + 1)), (0, .ref (g.2.2 28)), (1, .int a1), (2, .int a2), (3, .int x3), (4, .int y7), (6, .int y8)]) C (dk dX0_nextPair_1 19 rfl) (j := 5) rfl rfl (by decide) rfl ?_
          refine k_goto (tgt := 16) C (dk dX0_nextPair_1 20 rfl) (by decide) ?_
          refine k_sub C [1, 2, 3, 4, 5, 0] rfl ?_
          exact hJ16 _ _ _ h
        ·
          refine k_iload_n C (dk dX0_nextPair_0 19 rfl) rfl 1 rfl ?_
          refine k_iload C (dk dX0_nextPair_0 20 rfl) 5 rfl ?_
          refine cl2_k h (fun x11 s10 hc h => ?_)
          refine k_cs (As := [.int a1, .int y5]) (st := []) C (qX7_cellTo l g hg hc) (iW20 _ (List.mem_of_getElem? (i := 22) rfl)) (iW7 _ (List.mem_of_getElem? (i := 3) rfl)) (iW7 _ (List.mem_of_getElem? (i := 4) rfl)) (iW7 _ (List.mem_of_getElem? (i := 5) rfl)) rfl rfl hdX7_cellTo (by decide) rfl rfl (Nat.le_of_ble_eq_true rfl) (dk dX0_nextPair_0 21 rfl) ?_
          refine k_istore (lv' := [(7, .int x11), (0, .ref (g.2.2 28)), (1, .int a1), (2, .int a2), (3, .int x3), (4, .int y7), (5, .int y5), (6, .int y8)]) C (dk dX0_nextPair_0 22 rfl) (by decide) rfl ?_
          refine k_iload_n C (dk dX0_nextPair_0 23 rfl) rfl 3 rfl ?_
          refine k_iload C (dk dX0_nextPair_0 24 rfl) 7 rfl ?_
          refine cl2_k h (fun x13 s12 hc h => ?_)
          refine k_cs (As := [.int a2, .int y8]) (st := []) C (qX7_cellTo l g hg hc) (iW20 _ (List.mem_of_getElem? (i := 22) rfl)) (iW7 _ (List.mem_of_getElem? (i := 3) rfl)) (iW7 _ (List.mem_of_getElem? (i := 4) rfl)) (iW7 _ (List.mem_of_getElem? (i := 5) rfl)) rfl rfl hdX7_cellTo (by decide) rfl rfl (Nat.le_of_ble_eq_true rfl) (dk dX0_nextPair_0 25 rfl) ?_
          refine k_istore (lv' := [(8, .int x13), (7, .int x11), (0, .ref (g.2.2 28)), (1, .int a1), (2, .int a2), (3, .int x3), (4, .int y7), (5, .int y5), (6, .int y8)]) C (dk dX0_nextPair_0 26 rfl) (by decide) rfl ?_
          refine k_bipush (v := (100 : Int32)) C (dk dX0_nextPair_0 27 rfl) (by decide) ?_
          refine k_iload C (dk dX0_nextPair_0 28 rfl) 1 rfl ?_
          refine k_imul C (dk dX0_nextPair_0 29 rfl) ?_
          refine k_iload C (dk dX0_nextPair_0 30 rfl) 0 rfl ?_
          refine k_iadd C (dk dX0_nextPair_0 31 rfl) ?_
          refine nmI h (fun x14 h => ?_)
          refine k_istore (lv' := [(9, .int x14), (8, .int x13), (7, .int x11), (0, .ref (g.2.2 28)), (1, .int a1), (2, .int a2), (3, .int x3), (4, .int y7), (5, .int y5), (6, .int y8)]) C (dk dX0_nextPair_1 0 rfl) (by decide) rfl ?_
          refine k_iload_n C (dk dX0_nextPair_1 1 rfl) rfl 6 rfl ?_
          refine kl_J (P := (fun J91 => ∀ (y15 : Int32) (y16 : Int32) (s17 : St), J91 y15 y16 s17 = some (v, σe) → WK 91 [(0, .ref (g.2.2 28)), (1, .int a1), (2, .int a2), (3, .int x3), (4, .int y15), (5, .int y5), (6, .int y16)] [] s17)) h (fun y15 y16 s17 h => ?_) (fun J91 hJ91 h => ?_)
          ·
            unfold mX0_nextPair_91 at h
            refine k_iinc (lv' := [(6, .int (y16 + 1)), (0, .ref (g.2.2 28)), (1, .int a1), (2, .int a2), (3, .int x3), (4, .int y15), (5, .int y5)]) C (dk dX0_nextPair_1 17 rfl) (j := 6) rfl rfl (by decide) rfl ?_
            refine k_goto (tgt := 25) C (dk dX0_nextPair_1 18 rfl) (by decide) ?_
            refine k_sub C [1, 2, 3, 4, 5, 6, 0] rfl ?_
            exact hJ25 _ _ _ h
          ·
            refine k_if_lt (tgt := 91) C (dk dX0_nextPair_1 2 rfl) (by decide) h (fun h => ?_) (fun h => ?_)
            ·
              refine k_sub C [3, 4, 5, 6, 7, 8, 9] rfl ?_
              exact hJ91 _ _ _ h
            ·
              refine k_aload_n C (dk dX0_nextPair_1 3 rfl) rfl 3 rfl ?_
              refine k_iload C (dk dX0_nextPair_1 4 rfl) 2 rfl ?_
              refine k_iload C (dk dX0_nextPair_1 5 rfl) 1 rfl ?_
              refine cl2_k h (fun x19 s18 hc h => ?_)
              refine k_cv (T := TX0) (N := 9) (ci := 0) (ob := 28) (As := [.int x11, .int x13]) (st := []) C (qX0_daysLeft l g hg hc) (iW22 _ (List.mem_of_getElem? (i := 0) rfl)) (iW22 _ (List.mem_of_getElem? (i := 1) rfl)) (iW22 _ (List.mem_of_getElem? (i := 2) rfl)) (iW0 _ (List.mem_of_getElem? (i := 21) rfl)) (iW22 _ (List.mem_of_getElem? (i := 3) rfl)) rfl rfl hdX0_daysLeft (by decide) rfl (by decide) rfl rfl rfl (Nat.le_of_ble_eq_true rfl) (dk dX0_nextPair_1 6 rfl) ?_
              refine k_iload_n C (dk dX0_nextPair_1 7 rfl) rfl 6 rfl ?_
              refine k_icmp_ne (tgt := 91) C (dk dX0_nextPair_1 8 rfl) (by decide) h (fun h => ?_) (fun h => ?_)
              ·
                refine k_sub C [3, 4, 5, 6, 7, 8, 9] rfl ?_
                exact hJ91 _ _ _ h
              ·
                refine k_iload C (dk dX0_nextPair_1 9 rfl) 7 rfl ?_
                refine k_bipush (v := (-4 : Int32)) C (dk dX0_nextPair_1 10 rfl) (by decide) ?_
                refine kl_J (P := (fun J87 => ∀ (s20 : St), J87 s20 = some (v, σe) → WK 87 [(0, .ref (g.2.2 28)), (1, .int a1), (2, .int a2), (3, .int x3), (5, .int y5), (6, .int y8), (9, .int x14)] [] s20)) h (fun s20 h => ?_) (fun J87 hJ87 h => ?_)
                ·
                  unfold mX0_nextPair_87 at h
                  refine k_iload C (dk dX0_nextPair_1 15 rfl) 6 rfl ?_
                  refine k_istore (lv' := [(4, .int x14), (0, .ref (g.2.2 28)), (1, .int a1), (2, .int a2), (3, .int x3), (5, .int y5), (6, .int y8), (9, .int x14)]) C (dk dX0_nextPair_1 16 rfl) (by decide) rfl ?_
                  refine k_sub C [1, 2, 3, 4, 0, 5, 6] rfl ?_
                  exact hJ91 _ _ _ h
                ·
                  refine k_icmp_eq (tgt := 87) C (dk dX0_nextPair_1 11 rfl) (by decide) h (fun h => ?_) (fun h => ?_)
                  ·
                    refine k_sub C [3, 4, 5, 6, 8, 9, 0] rfl ?_
                    exact hJ87 _ h
                  ·
                    refine k_iload C (dk dX0_nextPair_1 12 rfl) 0 rfl ?_
                    refine k_iload C (dk dX0_nextPair_1 13 rfl) 7 rfl ?_
                    refine k_icmp_ge (tgt := 91) C (dk dX0_nextPair_1 14 rfl) (by decide) h (fun h => ?_) (fun h => ?_)
                    ·
                      refine k_sub C [3, 4, 5, 6, 7, 8, 9] rfl ?_
                      exact hJ91 _ _ _ h
                    ·
                      refine k_sub C [3, 4, 5, 6, 8, 9, 0] rfl ?_
                      exact hJ87 _ h
      ·
        refine k_sub C [1, 2, 3, 4, 5, 6, 0] rfl ?_
        exact hJ25 _ _ _ h
  ·
    refine k_sub C [3, 4, 5, 2, 1, 0] rfl ?_
    exact hJ16 _ _ _ h
end
