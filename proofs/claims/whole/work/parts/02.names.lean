-- ===== PART A: goes FIRST, ahead of the names: the tables' words, and 'selects' of the private methods out of them =====
/-- a private method of a class that the tables say can be made, by its rows of tables_1 -/
def lw_okq (q : MethodName × Nat) : Prop := (q.1.cls ≠ "java/lang/invoke/MethodHandle" ∧ q.1.cls ≠ "java/lang/invoke/VarHandle") ∧ Cond.instantiable q.1.cls q.2 ∈ tables_1 ∧ Cond.privateMethod q.1 ∈ tables_1 ∧ Cond.instanceMethod q.1 ∈ tables_1
theorem lw_p0 : lw_okq (⟨"SaggarKiln$Works", "weightOf", "(I)I"⟩, 8) := ⟨⟨by decide +kernel, by decide +kernel⟩, List.mem_of_getElem? (i := 63) (by decide +kernel), List.mem_of_getElem? (i := 312) (by decide +kernel), List.mem_of_getElem? (i := 313) (by decide +kernel)⟩
theorem lw_p1 : lw_okq (⟨"SaggarKiln", "freshDraft", "()LSaggarKiln$Works;"⟩, 8) := ⟨⟨by decide +kernel, by decide +kernel⟩, List.mem_of_getElem? (i := 28) (by decide +kernel), List.mem_of_getElem? (i := 359) (by decide +kernel), List.mem_of_getElem? (i := 360) (by decide +kernel)⟩
theorem lw_p2 : lw_okq (⟨"SaggarKiln", "settle", "(I)I"⟩, 8) := ⟨⟨by decide +kernel, by decide +kernel⟩, List.mem_of_getElem? (i := 28) (by decide +kernel), List.mem_of_getElem? (i := 374) (by decide +kernel), List.mem_of_getElem? (i := 375) (by decide +kernel)⟩
theorem lw_p3 : lw_okq (⟨"java/lang/Throwable", "fillInStackTrace", "(I)Ljava/lang/Throwable;"⟩, 6) := ⟨⟨by decide +kernel, by decide +kernel⟩, List.mem_of_getElem? (i := 420) (by decide +kernel), List.mem_of_getElem? (i := 418) (by decide +kernel), List.mem_of_getElem? (i := 419) (by decide +kernel)⟩
theorem lw_p4 : lw_okq (⟨"SaggarKiln$Works", "overloadedBelow", "(III)I"⟩, 8) := ⟨⟨by decide +kernel, by decide +kernel⟩, List.mem_of_getElem? (i := 63) (by decide +kernel), List.mem_of_getElem? (i := 607) (by decide +kernel), List.mem_of_getElem? (i := 608) (by decide +kernel)⟩
theorem lw_p5 : lw_okq (⟨"SaggarKiln$Works", "roomIn", "(I)I"⟩, 8) := ⟨⟨by decide +kernel, by decide +kernel⟩, List.mem_of_getElem? (i := 63) (by decide +kernel), List.mem_of_getElem? (i := 635) (by decide +kernel), List.mem_of_getElem? (i := 636) (by decide +kernel)⟩
theorem lw_p6 : lw_okq (⟨"SaggarKiln$Works", "isToFire", "(I)Z"⟩, 8) := ⟨⟨by decide +kernel, by decide +kernel⟩, List.mem_of_getElem? (i := 63) (by decide +kernel), List.mem_of_getElem? (i := 654) (by decide +kernel), List.mem_of_getElem? (i := 655) (by decide +kernel)⟩
theorem lw_p7 : lw_okq (⟨"SaggarKiln$Works", "gradeByFiring", "(II)I"⟩, 8) := ⟨⟨by decide +kernel, by decide +kernel⟩, List.mem_of_getElem? (i := 63) (by decide +kernel), List.mem_of_getElem? (i := 658) (by decide +kernel), List.mem_of_getElem? (i := 659) (by decide +kernel)⟩
theorem lw_p8 : lw_okq (⟨"SaggarKiln$Works", "lackingKind", "(I)I"⟩, 8) := ⟨⟨by decide +kernel, by decide +kernel⟩, List.mem_of_getElem? (i := 63) (by decide +kernel), List.mem_of_getElem? (i := 741) (by decide +kernel), List.mem_of_getElem? (i := 742) (by decide +kernel)⟩
theorem lw_p9 : lw_okq (⟨"SaggarKiln$Works", "countFor", "(II)I"⟩, 8) := ⟨⟨by decide +kernel, by decide +kernel⟩, List.mem_of_getElem? (i := 63) (by decide +kernel), List.mem_of_getElem? (i := 745) (by decide +kernel), List.mem_of_getElem? (i := 746) (by decide +kernel)⟩
theorem lw_p10 : lw_okq (⟨"SaggarKiln$Works", "takeSet", "(I)V"⟩, 8) := ⟨⟨by decide +kernel, by decide +kernel⟩, List.mem_of_getElem? (i := 63) (by decide +kernel), List.mem_of_getElem? (i := 764) (by decide +kernel), List.mem_of_getElem? (i := 765) (by decide +kernel)⟩
theorem lw_p11 : lw_okq (⟨"SaggarKiln", "needWare", "(I)V"⟩, 8) := ⟨⟨by decide +kernel, by decide +kernel⟩, List.mem_of_getElem? (i := 28) (by decide +kernel), List.mem_of_getElem? (i := 776) (by decide +kernel), List.mem_of_getElem? (i := 777) (by decide +kernel)⟩
theorem lw_p12 : lw_okq (⟨"SaggarKiln", "needSaggar", "(I)V"⟩, 8) := ⟨⟨by decide +kernel, by decide +kernel⟩, List.mem_of_getElem? (i := 28) (by decide +kernel), List.mem_of_getElem? (i := 799) (by decide +kernel), List.mem_of_getElem? (i := 800) (by decide +kernel)⟩
theorem lw_p13 : lw_okq (⟨"SaggarKiln", "needOrder", "(I)V"⟩, 8) := ⟨⟨by decide +kernel, by decide +kernel⟩, List.mem_of_getElem? (i := 28) (by decide +kernel), List.mem_of_getElem? (i := 836) (by decide +kernel), List.mem_of_getElem? (i := 837) (by decide +kernel)⟩
theorem lw_p14 : lw_okq (⟨"SaggarKiln$StepText", "passStep", "(I)Z"⟩, 6) := ⟨⟨by decide +kernel, by decide +kernel⟩, List.mem_of_getElem? (i := 195) (by decide +kernel), List.mem_of_getElem? (i := 977) (by decide +kernel), List.mem_of_getElem? (i := 978) (by decide +kernel)⟩
theorem lw_p15 : lw_okq (⟨"SaggarKiln$StepText", "passSign", "(C)Z"⟩, 6) := ⟨⟨by decide +kernel, by decide +kernel⟩, List.mem_of_getElem? (i := 195) (by decide +kernel), List.mem_of_getElem? (i := 981) (by decide +kernel), List.mem_of_getElem? (i := 982) (by decide +kernel)⟩
def lw_privs_1 : List (MethodName × Nat) := [(⟨"SaggarKiln$Works", "weightOf", "(I)I"⟩, 8), (⟨"SaggarKiln", "freshDraft", "()LSaggarKiln$Works;"⟩, 8), (⟨"SaggarKiln", "settle", "(I)I"⟩, 8), (⟨"java/lang/Throwable", "fillInStackTrace", "(I)Ljava/lang/Throwable;"⟩, 6), (⟨"SaggarKiln$Works", "overloadedBelow", "(III)I"⟩, 8), (⟨"SaggarKiln$Works", "roomIn", "(I)I"⟩, 8), (⟨"SaggarKiln$Works", "isToFire", "(I)Z"⟩, 8), (⟨"SaggarKiln$Works", "gradeByFiring", "(II)I"⟩, 8), (⟨"SaggarKiln$Works", "lackingKind", "(I)I"⟩, 8), (⟨"SaggarKiln$Works", "countFor", "(II)I"⟩, 8), (⟨"SaggarKiln$Works", "takeSet", "(I)V"⟩, 8), (⟨"SaggarKiln", "needWare", "(I)V"⟩, 8), (⟨"SaggarKiln", "needSaggar", "(I)V"⟩, 8), (⟨"SaggarKiln", "needOrder", "(I)V"⟩, 8), (⟨"SaggarKiln$StepText", "passStep", "(I)Z"⟩, 6), (⟨"SaggarKiln$StepText", "passSign", "(C)Z"⟩, 6)]
theorem lw_r1 : ∀ q ∈ lw_privs_1, lw_okq q := List.forall_mem_cons.mpr ⟨lw_p0, List.forall_mem_cons.mpr ⟨lw_p1, List.forall_mem_cons.mpr ⟨lw_p2, List.forall_mem_cons.mpr ⟨lw_p3, List.forall_mem_cons.mpr ⟨lw_p4, List.forall_mem_cons.mpr ⟨lw_p5, List.forall_mem_cons.mpr ⟨lw_p6, List.forall_mem_cons.mpr ⟨lw_p7, List.forall_mem_cons.mpr ⟨lw_p8, List.forall_mem_cons.mpr ⟨lw_p9, List.forall_mem_cons.mpr ⟨lw_p10, List.forall_mem_cons.mpr ⟨lw_p11, List.forall_mem_cons.mpr ⟨lw_p12, List.forall_mem_cons.mpr ⟨lw_p13, List.forall_mem_cons.mpr ⟨lw_p14, List.forall_mem_cons.mpr ⟨lw_p15, fun _ h => absurd h List.not_mem_nil⟩⟩⟩⟩⟩⟩⟩⟩⟩⟩⟩⟩⟩⟩⟩⟩
theorem lw_p16 : lw_okq (⟨"SaggarKiln$StepText", "passNumber", "(IIII)Z"⟩, 6) := ⟨⟨by decide +kernel, by decide +kernel⟩, List.mem_of_getElem? (i := 195) (by decide +kernel), List.mem_of_getElem? (i := 985) (by decide +kernel), List.mem_of_getElem? (i := 986) (by decide +kernel)⟩
theorem lw_p17 : lw_okq (⟨"SaggarKiln", "doStep", "(LSaggarKiln$Works;I)I"⟩, 8) := ⟨⟨by decide +kernel, by decide +kernel⟩, List.mem_of_getElem? (i := 28) (by decide +kernel), List.mem_of_getElem? (i := 994) (by decide +kernel), List.mem_of_getElem? (i := 995) (by decide +kernel)⟩
theorem lw_p18 : lw_okq (⟨"SaggarKilnModel", "keep", "()V"⟩, 18) := ⟨⟨by decide +kernel, by decide +kernel⟩, List.mem_of_getElem? (i := 1104) (by decide +kernel), List.mem_of_getElem? (i := 1180) (by decide +kernel), List.mem_of_getElem? (i := 1181) (by decide +kernel)⟩
theorem lw_p19 : lw_okq (⟨"SaggarKilnModel", "ends", "(I)I"⟩, 18) := ⟨⟨by decide +kernel, by decide +kernel⟩, List.mem_of_getElem? (i := 1104) (by decide +kernel), List.mem_of_getElem? (i := 1185) (by decide +kernel), List.mem_of_getElem? (i := 1186) (by decide +kernel)⟩
theorem lw_p20 : lw_okq (⟨"SaggarKilnModel", "refuse", "(III)I"⟩, 18) := ⟨⟨by decide +kernel, by decide +kernel⟩, List.mem_of_getElem? (i := 1104) (by decide +kernel), List.mem_of_getElem? (i := 1193) (by decide +kernel), List.mem_of_getElem? (i := 1194) (by decide +kernel)⟩
theorem lw_p21 : lw_okq (⟨"SaggarKilnModel", "doCast", "(III)I"⟩, 18) := ⟨⟨by decide +kernel, by decide +kernel⟩, List.mem_of_getElem? (i := 1104) (by decide +kernel), List.mem_of_getElem? (i := 1201) (by decide +kernel), List.mem_of_getElem? (i := 1202) (by decide +kernel)⟩
theorem lw_p22 : lw_okq (⟨"SaggarKilnModel", "doGlaze", "(III)I"⟩, 18) := ⟨⟨by decide +kernel, by decide +kernel⟩, List.mem_of_getElem? (i := 1104) (by decide +kernel), List.mem_of_getElem? (i := 1215) (by decide +kernel), List.mem_of_getElem? (i := 1216) (by decide +kernel)⟩
theorem lw_p23 : lw_okq (⟨"SaggarKilnModel", "isWare", "(I)Z"⟩, 18) := ⟨⟨by decide +kernel, by decide +kernel⟩, List.mem_of_getElem? (i := 1104) (by decide +kernel), List.mem_of_getElem? (i := 1219) (by decide +kernel), List.mem_of_getElem? (i := 1220) (by decide +kernel)⟩
theorem lw_p24 : lw_okq (⟨"SaggarKilnModel", "get", "(II)I"⟩, 18) := ⟨⟨by decide +kernel, by decide +kernel⟩, List.mem_of_getElem? (i := 1104) (by decide +kernel), List.mem_of_getElem? (i := 1223) (by decide +kernel), List.mem_of_getElem? (i := 1224) (by decide +kernel)⟩
theorem lw_p25 : lw_okq (⟨"SaggarKilnModel", "isSaggar", "(I)Z"⟩, 18) := ⟨⟨by decide +kernel, by decide +kernel⟩, List.mem_of_getElem? (i := 1104) (by decide +kernel), List.mem_of_getElem? (i := 1241) (by decide +kernel), List.mem_of_getElem? (i := 1242) (by decide +kernel)⟩
theorem lw_p26 : lw_okq (⟨"SaggarKilnModel", "isOnFloor", "(I)Z"⟩, 18) := ⟨⟨by decide +kernel, by decide +kernel⟩, List.mem_of_getElem? (i := 1104) (by decide +kernel), List.mem_of_getElem? (i := 1245) (by decide +kernel), List.mem_of_getElem? (i := 1246) (by decide +kernel)⟩
theorem lw_p27 : lw_okq (⟨"SaggarKilnModel", "getSaggar", "(II)I"⟩, 18) := ⟨⟨by decide +kernel, by decide +kernel⟩, List.mem_of_getElem? (i := 1104) (by decide +kernel), List.mem_of_getElem? (i := 1249) (by decide +kernel), List.mem_of_getElem? (i := 1250) (by decide +kernel)⟩
theorem lw_p28 : lw_okq (⟨"SaggarKilnModel", "footOf", "(I)I"⟩, 18) := ⟨⟨by decide +kernel, by decide +kernel⟩, List.mem_of_getElem? (i := 1104) (by decide +kernel), List.mem_of_getElem? (i := 1253) (by decide +kernel), List.mem_of_getElem? (i := 1254) (by decide +kernel)⟩
theorem lw_p29 : lw_okq (⟨"SaggarKilnModel", "weightOf", "(I)I"⟩, 18) := ⟨⟨by decide +kernel, by decide +kernel⟩, List.mem_of_getElem? (i := 1104) (by decide +kernel), List.mem_of_getElem? (i := 1257) (by decide +kernel), List.mem_of_getElem? (i := 1258) (by decide +kernel)⟩
theorem lw_p30 : lw_okq (⟨"SaggarKilnModel", "heldIn", "(I)I"⟩, 18) := ⟨⟨by decide +kernel, by decide +kernel⟩, List.mem_of_getElem? (i := 1104) (by decide +kernel), List.mem_of_getElem? (i := 1261) (by decide +kernel), List.mem_of_getElem? (i := 1262) (by decide +kernel)⟩
theorem lw_p31 : lw_okq (⟨"SaggarKilnModel", "size", "(I)I"⟩, 18) := ⟨⟨by decide +kernel, by decide +kernel⟩, List.mem_of_getElem? (i := 1104) (by decide +kernel), List.mem_of_getElem? (i := 1265) (by decide +kernel), List.mem_of_getElem? (i := 1266) (by decide +kernel)⟩
def lw_privs_2 : List (MethodName × Nat) := [(⟨"SaggarKiln$StepText", "passNumber", "(IIII)Z"⟩, 6), (⟨"SaggarKiln", "doStep", "(LSaggarKiln$Works;I)I"⟩, 8), (⟨"SaggarKilnModel", "keep", "()V"⟩, 18), (⟨"SaggarKilnModel", "ends", "(I)I"⟩, 18), (⟨"SaggarKilnModel", "refuse", "(III)I"⟩, 18), (⟨"SaggarKilnModel", "doCast", "(III)I"⟩, 18), (⟨"SaggarKilnModel", "doGlaze", "(III)I"⟩, 18), (⟨"SaggarKilnModel", "isWare", "(I)Z"⟩, 18), (⟨"SaggarKilnModel", "get", "(II)I"⟩, 18), (⟨"SaggarKilnModel", "isSaggar", "(I)Z"⟩, 18), (⟨"SaggarKilnModel", "isOnFloor", "(I)Z"⟩, 18), (⟨"SaggarKilnModel", "getSaggar", "(II)I"⟩, 18), (⟨"SaggarKilnModel", "footOf", "(I)I"⟩, 18), (⟨"SaggarKilnModel", "weightOf", "(I)I"⟩, 18), (⟨"SaggarKilnModel", "heldIn", "(I)I"⟩, 18), (⟨"SaggarKilnModel", "size", "(I)I"⟩, 18)]
theorem lw_r2 : ∀ q ∈ lw_privs_2, lw_okq q := List.forall_mem_cons.mpr ⟨lw_p16, List.forall_mem_cons.mpr ⟨lw_p17, List.forall_mem_cons.mpr ⟨lw_p18, List.forall_mem_cons.mpr ⟨lw_p19, List.forall_mem_cons.mpr ⟨lw_p20, List.forall_mem_cons.mpr ⟨lw_p21, List.forall_mem_cons.mpr ⟨lw_p22, List.forall_mem_cons.mpr ⟨lw_p23, List.forall_mem_cons.mpr ⟨lw_p24, List.forall_mem_cons.mpr ⟨lw_p25, List.forall_mem_cons.mpr ⟨lw_p26, List.forall_mem_cons.mpr ⟨lw_p27, List.forall_mem_cons.mpr ⟨lw_p28, List.forall_mem_cons.mpr ⟨lw_p29, List.forall_mem_cons.mpr ⟨lw_p30, List.forall_mem_cons.mpr ⟨lw_p31, fun _ h => absurd h List.not_mem_nil⟩⟩⟩⟩⟩⟩⟩⟩⟩⟩⟩⟩⟩⟩⟩⟩
theorem lw_p32 : lw_okq (⟨"SaggarKilnModel", "overloaded", "(II)I"⟩, 18) := ⟨⟨by decide +kernel, by decide +kernel⟩, List.mem_of_getElem? (i := 1104) (by decide +kernel), List.mem_of_getElem? (i := 1269) (by decide +kernel), List.mem_of_getElem? (i := 1270) (by decide +kernel)⟩
theorem lw_p33 : lw_okq (⟨"SaggarKilnModel", "loadOf", "(I)I"⟩, 18) := ⟨⟨by decide +kernel, by decide +kernel⟩, List.mem_of_getElem? (i := 1104) (by decide +kernel), List.mem_of_getElem? (i := 1273) (by decide +kernel), List.mem_of_getElem? (i := 1274) (by decide +kernel)⟩
theorem lw_p34 : lw_okq (⟨"SaggarKilnModel", "levelOf", "(I)I"⟩, 18) := ⟨⟨by decide +kernel, by decide +kernel⟩, List.mem_of_getElem? (i := 1104) (by decide +kernel), List.mem_of_getElem? (i := 1277) (by decide +kernel), List.mem_of_getElem? (i := 1278) (by decide +kernel)⟩
theorem lw_p35 : lw_okq (⟨"SaggarKilnModel", "doPut", "(II)I"⟩, 18) := ⟨⟨by decide +kernel, by decide +kernel⟩, List.mem_of_getElem? (i := 1104) (by decide +kernel), List.mem_of_getElem? (i := 1289) (by decide +kernel), List.mem_of_getElem? (i := 1290) (by decide +kernel)⟩
theorem lw_p36 : lw_okq (⟨"SaggarKilnModel", "doFire", "(I)I"⟩, 18) := ⟨⟨by decide +kernel, by decide +kernel⟩, List.mem_of_getElem? (i := 1104) (by decide +kernel), List.mem_of_getElem? (i := 1297) (by decide +kernel), List.mem_of_getElem? (i := 1298) (by decide +kernel)⟩
theorem lw_p37 : lw_okq (⟨"SaggarKilnModel", "isAnyToFire", "()Z"⟩, 18) := ⟨⟨by decide +kernel, by decide +kernel⟩, List.mem_of_getElem? (i := 1104) (by decide +kernel), List.mem_of_getElem? (i := 1301) (by decide +kernel), List.mem_of_getElem? (i := 1302) (by decide +kernel)⟩
theorem lw_p38 : lw_okq (⟨"SaggarKilnModel", "isToFire", "(I)Z"⟩, 18) := ⟨⟨by decide +kernel, by decide +kernel⟩, List.mem_of_getElem? (i := 1104) (by decide +kernel), List.mem_of_getElem? (i := 1305) (by decide +kernel), List.mem_of_getElem? (i := 1306) (by decide +kernel)⟩
theorem lw_p39 : lw_okq (⟨"SaggarKilnModel", "firstsBy", "(I)I"⟩, 18) := ⟨⟨by decide +kernel, by decide +kernel⟩, List.mem_of_getElem? (i := 1104) (by decide +kernel), List.mem_of_getElem? (i := 1309) (by decide +kernel), List.mem_of_getElem? (i := 1310) (by decide +kernel)⟩
theorem lw_p40 : lw_okq (⟨"SaggarKilnModel", "heatBy", "(II)I"⟩, 18) := ⟨⟨by decide +kernel, by decide +kernel⟩, List.mem_of_getElem? (i := 1104) (by decide +kernel), List.mem_of_getElem? (i := 1313) (by decide +kernel), List.mem_of_getElem? (i := 1314) (by decide +kernel)⟩
theorem lw_p41 : lw_okq (⟨"SaggarKilnModel", "classBy", "(II)I"⟩, 18) := ⟨⟨by decide +kernel, by decide +kernel⟩, List.mem_of_getElem? (i := 1104) (by decide +kernel), List.mem_of_getElem? (i := 1317) (by decide +kernel), List.mem_of_getElem? (i := 1318) (by decide +kernel)⟩
theorem lw_p42 : lw_okq (⟨"SaggarKilnModel", "needOf", "(I)I"⟩, 18) := ⟨⟨by decide +kernel, by decide +kernel⟩, List.mem_of_getElem? (i := 1104) (by decide +kernel), List.mem_of_getElem? (i := 1321) (by decide +kernel), List.mem_of_getElem? (i := 1322) (by decide +kernel)⟩
theorem lw_p43 : lw_okq (⟨"SaggarKilnModel", "doEmpty", "(I)I"⟩, 18) := ⟨⟨by decide +kernel, by decide +kernel⟩, List.mem_of_getElem? (i := 1104) (by decide +kernel), List.mem_of_getElem? (i := 1330) (by decide +kernel), List.mem_of_getElem? (i := 1331) (by decide +kernel)⟩
theorem lw_p44 : lw_okq (⟨"SaggarKilnModel", "manyIn", "(I)I"⟩, 18) := ⟨⟨by decide +kernel, by decide +kernel⟩, List.mem_of_getElem? (i := 1104) (by decide +kernel), List.mem_of_getElem? (i := 1334) (by decide +kernel), List.mem_of_getElem? (i := 1335) (by decide +kernel)⟩
theorem lw_p45 : lw_okq (⟨"SaggarKilnModel", "doSell", "(I)I"⟩, 18) := ⟨⟨by decide +kernel, by decide +kernel⟩, List.mem_of_getElem? (i := 1104) (by decide +kernel), List.mem_of_getElem? (i := 1349) (by decide +kernel), List.mem_of_getElem? (i := 1350) (by decide +kernel)⟩
theorem lw_p46 : lw_okq (⟨"SaggarKilnModel", "isOrder", "(I)Z"⟩, 18) := ⟨⟨by decide +kernel, by decide +kernel⟩, List.mem_of_getElem? (i := 1104) (by decide +kernel), List.mem_of_getElem? (i := 1353) (by decide +kernel), List.mem_of_getElem? (i := 1354) (by decide +kernel)⟩
theorem lw_p47 : lw_okq (⟨"SaggarKilnModel", "goSell", "(I)I"⟩, 18) := ⟨⟨by decide +kernel, by decide +kernel⟩, List.mem_of_getElem? (i := 1104) (by decide +kernel), List.mem_of_getElem? (i := 1357) (by decide +kernel), List.mem_of_getElem? (i := 1358) (by decide +kernel)⟩
def lw_privs_3 : List (MethodName × Nat) := [(⟨"SaggarKilnModel", "overloaded", "(II)I"⟩, 18), (⟨"SaggarKilnModel", "loadOf", "(I)I"⟩, 18), (⟨"SaggarKilnModel", "levelOf", "(I)I"⟩, 18), (⟨"SaggarKilnModel", "doPut", "(II)I"⟩, 18), (⟨"SaggarKilnModel", "doFire", "(I)I"⟩, 18), (⟨"SaggarKilnModel", "isAnyToFire", "()Z"⟩, 18), (⟨"SaggarKilnModel", "isToFire", "(I)Z"⟩, 18), (⟨"SaggarKilnModel", "firstsBy", "(I)I"⟩, 18), (⟨"SaggarKilnModel", "heatBy", "(II)I"⟩, 18), (⟨"SaggarKilnModel", "classBy", "(II)I"⟩, 18), (⟨"SaggarKilnModel", "needOf", "(I)I"⟩, 18), (⟨"SaggarKilnModel", "doEmpty", "(I)I"⟩, 18), (⟨"SaggarKilnModel", "manyIn", "(I)I"⟩, 18), (⟨"SaggarKilnModel", "doSell", "(I)I"⟩, 18), (⟨"SaggarKilnModel", "isOrder", "(I)Z"⟩, 18), (⟨"SaggarKilnModel", "goSell", "(I)I"⟩, 18)]
theorem lw_r3 : ∀ q ∈ lw_privs_3, lw_okq q := List.forall_mem_cons.mpr ⟨lw_p32, List.forall_mem_cons.mpr ⟨lw_p33, List.forall_mem_cons.mpr ⟨lw_p34, List.forall_mem_cons.mpr ⟨lw_p35, List.forall_mem_cons.mpr ⟨lw_p36, List.forall_mem_cons.mpr ⟨lw_p37, List.forall_mem_cons.mpr ⟨lw_p38, List.forall_mem_cons.mpr ⟨lw_p39, List.forall_mem_cons.mpr ⟨lw_p40, List.forall_mem_cons.mpr ⟨lw_p41, List.forall_mem_cons.mpr ⟨lw_p42, List.forall_mem_cons.mpr ⟨lw_p43, List.forall_mem_cons.mpr ⟨lw_p44, List.forall_mem_cons.mpr ⟨lw_p45, List.forall_mem_cons.mpr ⟨lw_p46, List.forall_mem_cons.mpr ⟨lw_p47, fun _ h => absurd h List.not_mem_nil⟩⟩⟩⟩⟩⟩⟩⟩⟩⟩⟩⟩⟩⟩⟩⟩
theorem lw_p48 : lw_okq (⟨"SaggarKilnModel", "saleable", "(II)I"⟩, 18) := ⟨⟨by decide +kernel, by decide +kernel⟩, List.mem_of_getElem? (i := 1104) (by decide +kernel), List.mem_of_getElem? (i := 1361) (by decide +kernel), List.mem_of_getElem? (i := 1362) (by decide +kernel)⟩
theorem lw_p49 : lw_okq (⟨"SaggarKilnModel", "mayBeSold", "(III)Z"⟩, 18) := ⟨⟨by decide +kernel, by decide +kernel⟩, List.mem_of_getElem? (i := 1104) (by decide +kernel), List.mem_of_getElem? (i := 1365) (by decide +kernel), List.mem_of_getElem? (i := 1366) (by decide +kernel)⟩
theorem lw_p50 : lw_okq (⟨"SaggarKilnModel", "isInStore", "(IIIZ)Z"⟩, 18) := ⟨⟨by decide +kernel, by decide +kernel⟩, List.mem_of_getElem? (i := 1104) (by decide +kernel), List.mem_of_getElem? (i := 1369) (by decide +kernel), List.mem_of_getElem? (i := 1370) (by decide +kernel)⟩
theorem lw_p51 : lw_okq (⟨"SaggarKilnModel", "refuseBefore", "(III)V"⟩, 18) := ⟨⟨by decide +kernel, by decide +kernel⟩, List.mem_of_getElem? (i := 1104) (by decide +kernel), List.mem_of_getElem? (i := 1373) (by decide +kernel), List.mem_of_getElem? (i := 1374) (by decide +kernel)⟩
theorem lw_p52 : lw_okq (⟨"SaggarKilnModel", "readStep", "()V"⟩, 18) := ⟨⟨by decide +kernel, by decide +kernel⟩, List.mem_of_getElem? (i := 1104) (by decide +kernel), List.mem_of_getElem? (i := 1476) (by decide +kernel), List.mem_of_getElem? (i := 1477) (by decide +kernel)⟩
theorem lw_p53 : lw_okq (⟨"SaggarKilnModel", "digit", "()I"⟩, 18) := ⟨⟨by decide +kernel, by decide +kernel⟩, List.mem_of_getElem? (i := 1104) (by decide +kernel), List.mem_of_getElem? (i := 1543) (by decide +kernel), List.mem_of_getElem? (i := 1544) (by decide +kernel)⟩
theorem lw_p54 : lw_okq (⟨"SaggarKilnModel", "sign", "(CC)I"⟩, 18) := ⟨⟨by decide +kernel, by decide +kernel⟩, List.mem_of_getElem? (i := 1104) (by decide +kernel), List.mem_of_getElem? (i := 1547) (by decide +kernel), List.mem_of_getElem? (i := 1548) (by decide +kernel)⟩
theorem lw_p55 : lw_okq (⟨"SaggarKilnModel", "isHere", "(CC)Z"⟩, 18) := ⟨⟨by decide +kernel, by decide +kernel⟩, List.mem_of_getElem? (i := 1104) (by decide +kernel), List.mem_of_getElem? (i := 1551) (by decide +kernel), List.mem_of_getElem? (i := 1552) (by decide +kernel)⟩
theorem lw_p56 : lw_okq (⟨"SaggarKilnModel", "number", "()I"⟩, 18) := ⟨⟨by decide +kernel, by decide +kernel⟩, List.mem_of_getElem? (i := 1104) (by decide +kernel), List.mem_of_getElem? (i := 1555) (by decide +kernel), List.mem_of_getElem? (i := 1556) (by decide +kernel)⟩
theorem lw_p57 : lw_okq (⟨"SaggarKilnModel", "digitBehind", "(C)I"⟩, 18) := ⟨⟨by decide +kernel, by decide +kernel⟩, List.mem_of_getElem? (i := 1104) (by decide +kernel), List.mem_of_getElem? (i := 1559) (by decide +kernel), List.mem_of_getElem? (i := 1560) (by decide +kernel)⟩
theorem lw_p58 : lw_okq (⟨"SaggarKilnModel", "fails", "(I)I"⟩, 18) := ⟨⟨by decide +kernel, by decide +kernel⟩, List.mem_of_getElem? (i := 1104) (by decide +kernel), List.mem_of_getElem? (i := 1563) (by decide +kernel), List.mem_of_getElem? (i := 1564) (by decide +kernel)⟩
theorem lw_p59 : lw_okq (⟨"SaggarKilnModel", "isRefused", "(I)Z"⟩, 18) := ⟨⟨by decide +kernel, by decide +kernel⟩, List.mem_of_getElem? (i := 1104) (by decide +kernel), List.mem_of_getElem? (i := 1567) (by decide +kernel), List.mem_of_getElem? (i := 1568) (by decide +kernel)⟩
theorem lw_p60 : lw_okq (⟨"SaggarKilnModel", "inKiln", "()I"⟩, 18) := ⟨⟨by decide +kernel, by decide +kernel⟩, List.mem_of_getElem? (i := 1104) (by decide +kernel), List.mem_of_getElem? (i := 1579) (by decide +kernel), List.mem_of_getElem? (i := 1580) (by decide +kernel)⟩
theorem lw_p61 : lw_okq (⟨"SaggarKilnModel", "setsSold", "()I"⟩, 18) := ⟨⟨by decide +kernel, by decide +kernel⟩, List.mem_of_getElem? (i := 1104) (by decide +kernel), List.mem_of_getElem? (i := 1583) (by decide +kernel), List.mem_of_getElem? (i := 1584) (by decide +kernel)⟩
theorem lw_p62 : lw_okq (⟨"SaggarKilnModel", "inState", "(I)I"⟩, 18) := ⟨⟨by decide +kernel, by decide +kernel⟩, List.mem_of_getElem? (i := 1104) (by decide +kernel), List.mem_of_getElem? (i := 1587) (by decide +kernel), List.mem_of_getElem? (i := 1588) (by decide +kernel)⟩
def lw_privs_4 : List (MethodName × Nat) := [(⟨"SaggarKilnModel", "saleable", "(II)I"⟩, 18), (⟨"SaggarKilnModel", "mayBeSold", "(III)Z"⟩, 18), (⟨"SaggarKilnModel", "isInStore", "(IIIZ)Z"⟩, 18), (⟨"SaggarKilnModel", "refuseBefore", "(III)V"⟩, 18), (⟨"SaggarKilnModel", "readStep", "()V"⟩, 18), (⟨"SaggarKilnModel", "digit", "()I"⟩, 18), (⟨"SaggarKilnModel", "sign", "(CC)I"⟩, 18), (⟨"SaggarKilnModel", "isHere", "(CC)Z"⟩, 18), (⟨"SaggarKilnModel", "number", "()I"⟩, 18), (⟨"SaggarKilnModel", "digitBehind", "(C)I"⟩, 18), (⟨"SaggarKilnModel", "fails", "(I)I"⟩, 18), (⟨"SaggarKilnModel", "isRefused", "(I)Z"⟩, 18), (⟨"SaggarKilnModel", "inKiln", "()I"⟩, 18), (⟨"SaggarKilnModel", "setsSold", "()I"⟩, 18), (⟨"SaggarKilnModel", "inState", "(I)I"⟩, 18)]
theorem lw_r4 : ∀ q ∈ lw_privs_4, lw_okq q := List.forall_mem_cons.mpr ⟨lw_p48, List.forall_mem_cons.mpr ⟨lw_p49, List.forall_mem_cons.mpr ⟨lw_p50, List.forall_mem_cons.mpr ⟨lw_p51, List.forall_mem_cons.mpr ⟨lw_p52, List.forall_mem_cons.mpr ⟨lw_p53, List.forall_mem_cons.mpr ⟨lw_p54, List.forall_mem_cons.mpr ⟨lw_p55, List.forall_mem_cons.mpr ⟨lw_p56, List.forall_mem_cons.mpr ⟨lw_p57, List.forall_mem_cons.mpr ⟨lw_p58, List.forall_mem_cons.mpr ⟨lw_p59, List.forall_mem_cons.mpr ⟨lw_p60, List.forall_mem_cons.mpr ⟨lw_p61, List.forall_mem_cons.mpr ⟨lw_p62, fun _ h => absurd h List.not_mem_nil⟩⟩⟩⟩⟩⟩⟩⟩⟩⟩⟩⟩⟩⟩⟩
def lw_privs : List (MethodName × Nat) := lw_privs_1 ++ (lw_privs_2 ++ (lw_privs_3 ++ (lw_privs_4)))
def lw_tbl : List Cond := k2_sels lw_privs ++ tables_1
theorem lw_privs_ok : ∀ q ∈ lw_privs, lw_okq q := by
  show ∀ q ∈ lw_privs_1 ++ (lw_privs_2 ++ (lw_privs_3 ++ (lw_privs_4))), lw_okq q
  exact List.forall_mem_append.mpr ⟨lw_r1, List.forall_mem_append.mpr ⟨lw_r2, List.forall_mem_append.mpr ⟨lw_r3, lw_r4⟩⟩⟩
/-- the streams that the claim lets the run draw from -/
abbrev lw_cs : List Choice := [Jvm.Choice.named "NaN.bits"]
theorem lw_bits : nanBits ∈ lw_cs := by first | decide | exact List.mem_cons_self | simp [lw_cs, nanBits]
def RX0 : String := "SaggarKiln$History"
def TX0 : u_T := fun k => match k with
  | 0 => ("SaggarKiln$History", "count", "I", false)
  | 1 => ("SaggarKiln$History", "next", "I", false)
  | _ => ("SaggarKiln$History", "ring", "[LSaggarKiln$Works;", true)
def tyX0 : Nat → FieldType := fun k => match k with
  | 0 => .int
  | 1 => .int
  | _ => .array (.object "SaggarKiln$Works")
abbrev wsX00 : List Cond := u_ws RX0 TX0 3
theorem nmX0 : ∀ a, a < 3 → ∀ b, b < 3 → a ≠ b → (TX0 a).2.1 ≠ (TX0 b).2.1 := by decide +kernel
theorem tyX0_ok : ∀ k, k < 3 → parseFieldDescriptor (TX0 k).2.2.1 = some (tyX0 k) := by decide +kernel
abbrev cX0_init : ByteArray := prog_2_method_1_code
def yX0_init : MethodName := ⟨RX0, "<init>", "()V"⟩
abbrev cX0_keep : ByteArray := prog_2_method_2_code
def yX0_keep : MethodName := ⟨RX0, "keep", "(LSaggarKiln$Works;)LSaggarKiln$Works;"⟩
abbrev cX0_exchangeLatest : ByteArray := prog_2_method_3_code
def yX0_exchangeLatest : MethodName := ⟨RX0, "exchangeLatest", "(LSaggarKiln$Works;)LSaggarKiln$Works;"⟩
abbrev cX0_forget : ByteArray := prog_2_method_4_code
def yX0_forget : MethodName := ⟨RX0, "forget", "()V"⟩
def RX1 : String := "SaggarKiln$Orders"
def TX1 : u_T := fun k => match k with
  | 0 => ("SaggarKiln$Orders", "count", "I", false)
  | 1 => ("SaggarKiln$Orders", "glaze", "[I", true)
  | 2 => ("SaggarKiln$Orders", "areSeconds", "[I", true)
  | 3 => ("SaggarKiln$Orders", "sold", "[I", true)
  | _ => ("SaggarKiln$Orders", "asked", "[I", true)
def tyX1 : Nat → FieldType := fun k => match k with
  | 0 => .int
  | 1 => .array .int
  | 2 => .array .int
  | 3 => .array .int
  | _ => .array .int
abbrev wsX10 : List Cond := u_ws RX1 TX1 5
theorem nmX1 : ∀ a, a < 5 → ∀ b, b < 5 → a ≠ b → (TX1 a).2.1 ≠ (TX1 b).2.1 := by decide +kernel
theorem tyX1_ok : ∀ k, k < 5 → parseFieldDescriptor (TX1 k).2.2.1 = some (tyX1 k) := by decide +kernel
abbrev cX1_init : ByteArray := prog_3_method_1_code
def yX1_init : MethodName := ⟨RX1, "<init>", "()V"⟩
abbrev cX1_copyFrom : ByteArray := prog_3_method_2_code
def yX1_copyFrom : MethodName := ⟨RX1, "copyFrom", "(LSaggarKiln$Orders;)V"⟩
abbrev cX1_has : ByteArray := prog_3_method_3_code
def yX1_has : MethodName := ⟨RX1, "has", "(I)Z"⟩
abbrev cX1_add : ByteArray := prog_3_method_4_code
def yX1_add : MethodName := ⟨RX1, "add", "(IZ)I"⟩
abbrev cX1_ask : ByteArray := prog_3_method_5_code
def yX1_ask : MethodName := ⟨RX1, "ask", "(III)V"⟩
abbrev cX1_askedOf : ByteArray := prog_3_method_6_code
def yX1_askedOf : MethodName := ⟨RX1, "askedOf", "(II)I"⟩
abbrev cX1_countSold : ByteArray := prog_3_method_7_code
def yX1_countSold : MethodName := ⟨RX1, "countSold", "()I"⟩
abbrev cX1_countSoldOf : ByteArray := prog_3_method_8_code
def yX1_countSoldOf : MethodName := ⟨RX1, "countSoldOf", "(I)I"⟩
abbrev cX1_numberOf : ByteArray := prog_3_method_9_code
def yX1_numberOf : MethodName := ⟨RX1, "numberOf", "(II)I"⟩
def RX2 : String := "SaggarKiln$Reasons"
def TX2 : u_T := fun k => match k with
  | 0 => ("SaggarKiln$Reasons", "count", "I", false)
  | 1 => ("SaggarKiln$Reasons", "reason", "[I", true)
  | _ => ("SaggarKiln$Reasons", "detail", "[I", true)
def tyX2 : Nat → FieldType := fun k => match k with
  | 0 => .int
  | 1 => .array .int
  | _ => .array .int
abbrev wsX20 : List Cond := u_ws RX2 TX2 3
theorem nmX2 : ∀ a, a < 3 → ∀ b, b < 3 → a ≠ b → (TX2 a).2.1 ≠ (TX2 b).2.1 := by decide +kernel
theorem tyX2_ok : ∀ k, k < 3 → parseFieldDescriptor (TX2 k).2.2.1 = some (tyX2 k) := by decide +kernel
abbrev cX2_init : ByteArray := prog_4_method_1_code
def yX2_init : MethodName := ⟨RX2, "<init>", "()V"⟩
abbrev cX2_copyFrom : ByteArray := prog_4_method_2_code
def yX2_copyFrom : MethodName := ⟨RX2, "copyFrom", "(LSaggarKiln$Reasons;)V"⟩
abbrev cX2_refuse : ByteArray := prog_4_method_3_code
def yX2_refuse : MethodName := ⟨RX2, "refuse", "(II)I"⟩
abbrev cX2_note : ByteArray := prog_4_method_4_code
def yX2_note : MethodName := ⟨RX2, "note", "(II)V"⟩
abbrev cX2_noteAhead : ByteArray := prog_4_method_5_code
def yX2_noteAhead : MethodName := ⟨RX2, "noteAhead", "(II)V"⟩
def RX3 : String := "SaggarKiln$Saggars"
def TX3 : u_T := fun k => match k with
  | 0 => ("SaggarKiln$Saggars", "count", "I", false)
  | 1 => ("SaggarKiln$Saggars", "bung", "[I", true)
  | _ => ("SaggarKiln$Saggars", "level", "[I", true)
def tyX3 : Nat → FieldType := fun k => match k with
  | 0 => .int
  | 1 => .array .int
  | _ => .array .int
abbrev wsX30 : List Cond := u_ws RX3 TX3 3
theorem nmX3 : ∀ a, a < 3 → ∀ b, b < 3 → a ≠ b → (TX3 a).2.1 ≠ (TX3 b).2.1 := by decide +kernel
theorem tyX3_ok : ∀ k, k < 3 → parseFieldDescriptor (TX3 k).2.2.1 = some (tyX3 k) := by decide +kernel
abbrev cX3_init : ByteArray := prog_5_method_1_code
def yX3_init : MethodName := ⟨RX3, "<init>", "()V"⟩
abbrev cX3_copyFrom : ByteArray := prog_5_method_2_code
def yX3_copyFrom : MethodName := ⟨RX3, "copyFrom", "(LSaggarKiln$Saggars;)V"⟩
abbrev cX3_has : ByteArray := prog_5_method_3_code
def yX3_has : MethodName := ⟨RX3, "has", "(I)Z"⟩
abbrev cX3_add : ByteArray := prog_5_method_4_code
def yX3_add : MethodName := ⟨RX3, "add", "()I"⟩
abbrev cX3_place : ByteArray := prog_5_method_5_code
def yX3_place : MethodName := ⟨RX3, "place", "(III)V"⟩
abbrev cX3_isInKiln : ByteArray := prog_5_method_6_code
def yX3_isInKiln : MethodName := ⟨RX3, "isInKiln", "(I)Z"⟩
abbrev cX3_at : ByteArray := prog_5_method_7_code
def yX3_at : MethodName := ⟨RX3, "at", "(II)I"⟩
abbrev cX3_above : ByteArray := prog_5_method_8_code
def yX3_above : MethodName := ⟨RX3, "above", "(I)I"⟩
abbrev cX3_below : ByteArray := prog_5_method_9_code
def yX3_below : MethodName := ⟨RX3, "below", "(I)I"⟩
abbrev cX3_heatThere : ByteArray := prog_5_method_10_code
def yX3_heatThere : MethodName := ⟨RX3, "heatThere", "(II)I"⟩
abbrev cX3_countInKiln : ByteArray := prog_5_method_11_code
def yX3_countInKiln : MethodName := ⟨RX3, "countInKiln", "()I"⟩
def RX4 : String := "SaggarKiln$StepText"
def TX4 : u_T := fun k => match k with
  | 0 => ("SaggarKiln$StepText", "length", "I", false)
  | 1 => ("SaggarKiln$StepText", "steps", "I", false)
  | 2 => ("SaggarKiln$StepText", "verbs", "[C", true)
  | 3 => ("SaggarKiln$StepText", "numbers", "[[I", true)
  | 4 => ("SaggarKiln$StepText", "signs", "[C", true)
  | _ => ("SaggarKiln$StepText", "at", "I", false)
def tyX4 : Nat → FieldType := fun k => match k with
  | 0 => .int
  | 1 => .int
  | 2 => .array .char
  | 3 => .array (.array .int)
  | 4 => .array .char
  | _ => .int
abbrev wsX40 : List Cond := u_ws RX4 TX4 6
theorem nmX4 : ∀ a, a < 6 → ∀ b, b < 6 → a ≠ b → (TX4 a).2.1 ≠ (TX4 b).2.1 := by decide +kernel
theorem tyX4_ok : ∀ k, k < 6 → parseFieldDescriptor (TX4 k).2.2.1 = some (tyX4 k) := by decide +kernel
abbrev cX4_init : ByteArray := prog_6_method_1_code
def yX4_init : MethodName := ⟨RX4, "<init>", "()V"⟩
abbrev cX4_isFull : ByteArray := prog_6_method_2_code
def yX4_isFull : MethodName := ⟨RX4, "isFull", "()Z"⟩
abbrev cX4_add : ByteArray := prog_6_method_3_code
def yX4_add : MethodName := ⟨RX4, "add", "(C)V"⟩
abbrev cX4_clear : ByteArray := prog_6_method_4_code
def yX4_clear : MethodName := ⟨RX4, "clear", "()V"⟩
abbrev cX4_parse : ByteArray := prog_6_method_5_code
def yX4_parse : MethodName := ⟨RX4, "parse", "()I"⟩
abbrev cX4_passStep : ByteArray := prog_6_method_6_code
def yX4_passStep : MethodName := ⟨RX4, "passStep", "(I)Z"⟩
abbrev cX4_passSign : ByteArray := prog_6_method_7_code
def yX4_passSign : MethodName := ⟨RX4, "passSign", "(C)Z"⟩
abbrev cX4_passNumber : ByteArray := prog_6_method_8_code
def yX4_passNumber : MethodName := ⟨RX4, "passNumber", "(IIII)Z"⟩
def RX5 : String := "SaggarKiln$Wares"
def TX5 : u_T := fun k => match k with
  | 0 => ("SaggarKiln$Wares", "count", "I", false)
  | 1 => ("SaggarKiln$Wares", "state", "[I", true)
  | 2 => ("SaggarKiln$Wares", "glaze", "[I", true)
  | 3 => ("SaggarKiln$Wares", "thickness", "[I", true)
  | 4 => ("SaggarKiln$Wares", "saggar", "[I", true)
  | 5 => ("SaggarKiln$Wares", "grade", "[I", true)
  | 6 => ("SaggarKiln$Wares", "kind", "[I", true)
  | _ => ("SaggarKiln$Wares", "bone", "[I", true)
def tyX5 : Nat → FieldType := fun k => match k with
  | 0 => .int
  | 1 => .array .int
  | 2 => .array .int
  | 3 => .array .int
  | 4 => .array .int
  | 5 => .array .int
  | 6 => .array .int
  | _ => .array .int
abbrev wsX50 : List Cond := u_ws RX5 TX5 8
theorem nmX5 : ∀ a, a < 8 → ∀ b, b < 8 → a ≠ b → (TX5 a).2.1 ≠ (TX5 b).2.1 := by decide +kernel
theorem tyX5_ok : ∀ k, k < 8 → parseFieldDescriptor (TX5 k).2.2.1 = some (tyX5 k) := by decide +kernel
abbrev cX5_init : ByteArray := prog_7_method_1_code
def yX5_init : MethodName := ⟨RX5, "<init>", "()V"⟩
abbrev cX5_copyFrom : ByteArray := prog_7_method_2_code
def yX5_copyFrom : MethodName := ⟨RX5, "copyFrom", "(LSaggarKiln$Wares;)V"⟩
abbrev cX5_has : ByteArray := prog_7_method_3_code
def yX5_has : MethodName := ⟨RX5, "has", "(I)Z"⟩
abbrev cX5_add : ByteArray := prog_7_method_4_code
def yX5_add : MethodName := ⟨RX5, "add", "(II)V"⟩
abbrev cX5_sizeOf : ByteArray := prog_7_method_5_code
def yX5_sizeOf : MethodName := ⟨RX5, "sizeOf", "(I)I"⟩
abbrev cX5_needOf : ByteArray := prog_7_method_6_code
def yX5_needOf : MethodName := ⟨RX5, "needOf", "(I)I"⟩
abbrev cX5_isGlazed : ByteArray := prog_7_method_7_code
def yX5_isGlazed : MethodName := ⟨RX5, "isGlazed", "(I)Z"⟩
abbrev cX5_meltingHeatOf : ByteArray := prog_7_method_8_code
def yX5_meltingHeatOf : MethodName := ⟨RX5, "meltingHeatOf", "(I)I"⟩
abbrev cX5_flowAt : ByteArray := prog_7_method_9_code
def yX5_flowAt : MethodName := ⟨RX5, "flowAt", "(II)I"⟩
abbrev cX5_takeOut : ByteArray := prog_7_method_10_code
def yX5_takeOut : MethodName := ⟨RX5, "takeOut", "(I)V"⟩
abbrev cX5_isInStore : ByteArray := prog_7_method_11_code
def yX5_isInStore : MethodName := ⟨RX5, "isInStore", "(III)Z"⟩
abbrev cX5_countInStore : ByteArray := prog_7_method_12_code
def yX5_countInStore : MethodName := ⟨RX5, "countInStore", "(III)I"⟩
abbrev cX5_countInState : ByteArray := prog_7_method_13_code
def yX5_countInState : MethodName := ⟨RX5, "countInState", "(I)I"⟩
abbrev cX5_countSold : ByteArray := prog_7_method_14_code
def yX5_countSold : MethodName := ⟨RX5, "countSold", "(I)I"⟩
abbrev cX5_countOfGrade : ByteArray := prog_7_method_15_code
def yX5_countOfGrade : MethodName := ⟨RX5, "countOfGrade", "(I)I"⟩
abbrev cX5_countFired : ByteArray := prog_7_method_16_code
def yX5_countFired : MethodName := ⟨RX5, "countFired", "()I"⟩
abbrev cX5_countIn : ByteArray := prog_7_method_17_code
def yX5_countIn : MethodName := ⟨RX5, "countIn", "(I)I"⟩
abbrev cX5_sizeIn : ByteArray := prog_7_method_18_code
def yX5_sizeIn : MethodName := ⟨RX5, "sizeIn", "(I)I"⟩
abbrev cX5_sizeOfAll : ByteArray := prog_7_method_19_code
def yX5_sizeOfAll : MethodName := ⟨RX5, "sizeOfAll", "()I"⟩
abbrev cX5_numberOf : ByteArray := prog_7_method_20_code
def yX5_numberOf : MethodName := ⟨RX5, "numberOf", "(II)I"⟩
def RX6 : String := "SaggarKiln$Works"
def TX6 : u_T := fun k => match k with
  | 0 => ("SaggarKiln$Works", "wares", "LSaggarKiln$Wares;", true)
  | 1 => ("SaggarKiln$Works", "saggars", "LSaggarKiln$Saggars;", true)
  | 2 => ("SaggarKiln$Works", "orders", "LSaggarKiln$Orders;", true)
  | 3 => ("SaggarKiln$Works", "why", "LSaggarKiln$Reasons;", true)
  | 4 => ("SaggarKiln$Works", "settings", "[I", true)
  | 5 => ("SaggarKiln$Works", "stock", "I", false)
  | 6 => ("SaggarKiln$Works", "bought", "I", false)
  | _ => ("SaggarKiln$Works", "firings", "I", false)
def tyX6 : Nat → FieldType := fun k => match k with
  | 0 => .object "SaggarKiln$Wares"
  | 1 => .object "SaggarKiln$Saggars"
  | 2 => .object "SaggarKiln$Orders"
  | 3 => .object "SaggarKiln$Reasons"
  | 4 => .array .int
  | 5 => .int
  | 6 => .int
  | _ => .int
abbrev wsX60 : List Cond := u_ws RX6 TX6 8
theorem nmX6 : ∀ a, a < 8 → ∀ b, b < 8 → a ≠ b → (TX6 a).2.1 ≠ (TX6 b).2.1 := by decide +kernel
theorem tyX6_ok : ∀ k, k < 8 → parseFieldDescriptor (TX6 k).2.2.1 = some (tyX6 k) := by decide +kernel
abbrev cX6_init : ByteArray := prog_8_method_1_code
def yX6_init : MethodName := ⟨RX6, "<init>", "()V"⟩
abbrev cX6_copyFrom : ByteArray := prog_8_method_2_code
def yX6_copyFrom : MethodName := ⟨RX6, "copyFrom", "(LSaggarKiln$Works;)V"⟩
abbrev cX6_changeSetting : ByteArray := prog_8_method_3_code
def yX6_changeSetting : MethodName := ⟨RX6, "changeSetting", "(II)I"⟩
abbrev cX6_buyClay : ByteArray := prog_8_method_4_code
def yX6_buyClay : MethodName := ⟨RX6, "buyClay", "(I)I"⟩
abbrev cX6_throwWares : ByteArray := prog_8_method_5_code
def yX6_throwWares : MethodName := ⟨RX6, "throwWares", "(III)I"⟩
abbrev cX6_coatWare : ByteArray := prog_8_method_6_code
def yX6_coatWare : MethodName := ⟨RX6, "coatWare", "(III)I"⟩
abbrev cX6_addSaggar : ByteArray := prog_8_method_7_code
def yX6_addSaggar : MethodName := ⟨RX6, "addSaggar", "()I"⟩
abbrev cX6_standInKiln : ByteArray := prog_8_method_8_code
def yX6_standInKiln : MethodName := ⟨RX6, "standInKiln", "(III)I"⟩
abbrev cX6_standOnFloor : ByteArray := prog_8_method_9_code
def yX6_standOnFloor : MethodName := ⟨RX6, "standOnFloor", "(I)I"⟩
abbrev cX6_putWare : ByteArray := prog_8_method_10_code
def yX6_putWare : MethodName := ⟨RX6, "putWare", "(II)I"⟩
abbrev cX6_fireWares : ByteArray := prog_8_method_11_code
def yX6_fireWares : MethodName := ⟨RX6, "fireWares", "(I)I"⟩
abbrev cX6_emptySaggar : ByteArray := prog_8_method_12_code
def yX6_emptySaggar : MethodName := ⟨RX6, "emptySaggar", "(I)I"⟩
abbrev cX6_addOrder : ByteArray := prog_8_method_13_code
def yX6_addOrder : MethodName := ⟨RX6, "addOrder", "(IIIIIZ)I"⟩
abbrev cX6_sellSet : ByteArray := prog_8_method_14_code
def yX6_sellSet : MethodName := ⟨RX6, "sellSet", "(I)I"⟩
abbrev cX6_noteFailedStep : ByteArray := prog_8_method_15_code
def yX6_noteFailedStep : MethodName := ⟨RX6, "noteFailedStep", "(II)V"⟩
abbrev cX6_sellAllSets : ByteArray := prog_8_method_16_code
def yX6_sellAllSets : MethodName := ⟨RX6, "sellAllSets", "(I)I"⟩
abbrev cX6_setsByDivision : ByteArray := prog_8_method_17_code
def yX6_setsByDivision : MethodName := ⟨RX6, "setsByDivision", "(I)I"⟩
abbrev cX6_lackingKind : ByteArray := prog_8_method_18_code
def yX6_lackingKind : MethodName := ⟨RX6, "lackingKind", "(I)I"⟩
abbrev cX6_countFor : ByteArray := prog_8_method_19_code
def yX6_countFor : MethodName := ⟨RX6, "countFor", "(II)I"⟩
abbrev cX6_takeSet : ByteArray := prog_8_method_20_code
def yX6_takeSet : MethodName := ⟨RX6, "takeSet", "(I)V"⟩
abbrev cX6_isThereToFire : ByteArray := prog_8_method_21_code
def yX6_isThereToFire : MethodName := ⟨RX6, "isThereToFire", "()Z"⟩
abbrev cX6_firstsBy : ByteArray := prog_8_method_22_code
def yX6_firstsBy : MethodName := ⟨RX6, "firstsBy", "(I)I"⟩
abbrev cX6_isToFire : ByteArray := prog_8_method_23_code
def yX6_isToFire : MethodName := ⟨RX6, "isToFire", "(I)Z"⟩
abbrev cX6_gradeByFiring : ByteArray := prog_8_method_24_code
def yX6_gradeByFiring : MethodName := ⟨RX6, "gradeByFiring", "(II)I"⟩
abbrev cX6_gradeAt : ByteArray := prog_8_method_25_code
def yX6_gradeAt : MethodName := ⟨RX6, "gradeAt", "(II)I"⟩
abbrev cX6_weightOf : ByteArray := prog_8_method_26_code
def yX6_weightOf : MethodName := ⟨RX6, "weightOf", "(I)I"⟩
abbrev cX6_roomIn : ByteArray := prog_8_method_27_code
def yX6_roomIn : MethodName := ⟨RX6, "roomIn", "(I)I"⟩
abbrev cX6_overloadedBelow : ByteArray := prog_8_method_28_code
def yX6_overloadedBelow : MethodName := ⟨RX6, "overloadedBelow", "(III)I"⟩
abbrev cX6_weightAbove : ByteArray := prog_8_method_29_code
def yX6_weightAbove : MethodName := ⟨RX6, "weightAbove", "(I)I"⟩
abbrev cX6_weightOfRestOfBung : ByteArray := prog_8_method_30_code
def yX6_weightOfRestOfBung : MethodName := ⟨RX6, "weightOfRestOfBung", "(I)I"⟩
abbrev cX6_sumOfLoads : ByteArray := prog_8_method_31_code
def yX6_sumOfLoads : MethodName := ⟨RX6, "sumOfLoads", "()I"⟩
abbrev cX6_numberOfSaggar : ByteArray := prog_8_method_32_code
def yX6_numberOfSaggar : MethodName := ⟨RX6, "numberOfSaggar", "(II)I"⟩
abbrev cX6_accountOf : ByteArray := prog_8_method_33_code
def yX6_accountOf : MethodName := ⟨RX6, "accountOf", "(I)I"⟩
abbrev cX6_isClayBalanced : ByteArray := prog_8_method_34_code
def yX6_isClayBalanced : MethodName := ⟨RX6, "isClayBalanced", "()Z"⟩
abbrev cX6_areSalesBalanced : ByteArray := prog_8_method_35_code
def yX6_areSalesBalanced : MethodName := ⟨RX6, "areSalesBalanced", "()Z"⟩
abbrev cX6_areLoadsBalanced : ByteArray := prog_8_method_36_code
def yX6_areLoadsBalanced : MethodName := ⟨RX6, "areLoadsBalanced", "()Z"⟩
def RX7 : String := "SaggarKiln"
def TX7 : u_T := fun k => match k with
  | 0 => ("SaggarKiln", "reasons", "LSaggarKiln$Reasons;", true)
  | 1 => ("SaggarKiln", "history", "LSaggarKiln$History;", true)
  | 2 => ("SaggarKiln", "text", "LSaggarKiln$StepText;", true)
  | 3 => ("SaggarKiln", "now", "LSaggarKiln$Works;", false)
  | 4 => ("SaggarKiln", "draft", "LSaggarKiln$Works;", false)
  | 5 => ("SaggarKiln", "snapshot", "LSaggarKiln$Works;", true)
  | 6 => ("SaggarKiln", "hasSnapshot", "Z", false)
  | _ => ("SaggarKiln", "fault", "I", false)
def tyX7 : Nat → FieldType := fun k => match k with
  | 0 => .object "SaggarKiln$Reasons"
  | 1 => .object "SaggarKiln$History"
  | 2 => .object "SaggarKiln$StepText"
  | 3 => .object "SaggarKiln$Works"
  | 4 => .object "SaggarKiln$Works"
  | 5 => .object "SaggarKiln$Works"
  | 6 => .boolean
  | _ => .int
abbrev wsX70 : List Cond := u_ws RX7 TX7 8
theorem nmX7 : ∀ a, a < 8 → ∀ b, b < 8 → a ≠ b → (TX7 a).2.1 ≠ (TX7 b).2.1 := by decide +kernel
theorem tyX7_ok : ∀ k, k < 8 → parseFieldDescriptor (TX7 k).2.2.1 = some (tyX7 k) := by decide +kernel
abbrev cX7_init : ByteArray := prog_1_method_1_code
def yX7_init : MethodName := ⟨RX7, "<init>", "()V"⟩
abbrev cX7_set : ByteArray := prog_1_method_2_code
def yX7_set : MethodName := ⟨RX7, "set", "(II)I"⟩
abbrev cX7_clay : ByteArray := prog_1_method_3_code
def yX7_clay : MethodName := ⟨RX7, "clay", "(I)I"⟩
abbrev cX7_cast : ByteArray := prog_1_method_4_code
def yX7_cast : MethodName := ⟨RX7, "cast", "(III)I"⟩
abbrev cX7_glaze : ByteArray := prog_1_method_5_code
def yX7_glaze : MethodName := ⟨RX7, "glaze", "(III)I"⟩
abbrev cX7_saggar : ByteArray := prog_1_method_6_code
def yX7_saggar : MethodName := ⟨RX7, "saggar", "()I"⟩
abbrev cX7_stack : ByteArray := prog_1_method_7_code
def yX7_stack : MethodName := ⟨RX7, "stack", "(III)I"⟩
abbrev cX7_unstack : ByteArray := prog_1_method_8_code
def yX7_unstack : MethodName := ⟨RX7, "unstack", "(I)I"⟩
abbrev cX7_put : ByteArray := prog_1_method_9_code
def yX7_put : MethodName := ⟨RX7, "put", "(II)I"⟩
abbrev cX7_fire : ByteArray := prog_1_method_10_code
def yX7_fire : MethodName := ⟨RX7, "fire", "(I)I"⟩
abbrev cX7_empty : ByteArray := prog_1_method_11_code
def yX7_empty : MethodName := ⟨RX7, "empty", "(I)I"⟩
abbrev cX7_order : ByteArray := prog_1_method_12_code
def yX7_order : MethodName := ⟨RX7, "order", "(IIIIIZ)I"⟩
abbrev cX7_sell : ByteArray := prog_1_method_13_code
def yX7_sell : MethodName := ⟨RX7, "sell", "(I)I"⟩
abbrev cX7_ware : ByteArray := prog_1_method_14_code
def yX7_ware : MethodName := ⟨RX7, "ware", "(II)I"⟩
abbrev cX7_saggarOf : ByteArray := prog_1_method_15_code
def yX7_saggarOf : MethodName := ⟨RX7, "saggarOf", "(II)I"⟩
abbrev cX7_load : ByteArray := prog_1_method_16_code
def yX7_load : MethodName := ⟨RX7, "load", "(I)I"⟩
abbrev cX7_loadAgain : ByteArray := prog_1_method_17_code
def yX7_loadAgain : MethodName := ⟨RX7, "loadAgain", "(I)I"⟩
abbrev cX7_orderOf : ByteArray := prog_1_method_18_code
def yX7_orderOf : MethodName := ⟨RX7, "orderOf", "(II)I"⟩
abbrev cX7_sign : ByteArray := prog_1_method_19_code
def yX7_sign : MethodName := ⟨RX7, "sign", "(I)C"⟩
abbrev cX7_store : ByteArray := prog_1_method_20_code
def yX7_store : MethodName := ⟨RX7, "store", "(IIZ)I"⟩
abbrev cX7_heatAt : ByteArray := prog_1_method_21_code
def yX7_heatAt : MethodName := ⟨RX7, "heatAt", "(II)I"⟩
abbrev cX7_wouldBe : ByteArray := prog_1_method_22_code
def yX7_wouldBe : MethodName := ⟨RX7, "wouldBe", "(II)I"⟩
abbrev cX7_bestHeat : ByteArray := prog_1_method_23_code
def yX7_bestHeat : MethodName := ⟨RX7, "bestHeat", "(Z)I"⟩
abbrev cX7_sets : ByteArray := prog_1_method_24_code
def yX7_sets : MethodName := ⟨RX7, "sets", "(I)I"⟩
abbrev cX7_setsAgain : ByteArray := prog_1_method_25_code
def yX7_setsAgain : MethodName := ⟨RX7, "setsAgain", "(I)I"⟩
abbrev cX7_append : ByteArray := prog_1_method_26_code
def yX7_append : MethodName := ⟨RX7, "append", "(C)I"⟩
abbrev cX7_read : ByteArray := prog_1_method_27_code
def yX7_read : MethodName := ⟨RX7, "read", "()I"⟩
abbrev cX7_faultPosition : ByteArray := prog_1_method_28_code
def yX7_faultPosition : MethodName := ⟨RX7, "faultPosition", "()I"⟩
abbrev cX7_refusal : ByteArray := prog_1_method_29_code
def yX7_refusal : MethodName := ⟨RX7, "refusal", "(IZ)I"⟩
abbrev cX7_account : ByteArray := prog_1_method_30_code
def yX7_account : MethodName := ⟨RX7, "account", "(I)I"⟩
abbrev cX7_isBalanced : ByteArray := prog_1_method_31_code
def yX7_isBalanced : MethodName := ⟨RX7, "isBalanced", "()Z"⟩
abbrev cX7_firstShare : ByteArray := prog_1_method_32_code
def yX7_firstShare : MethodName := ⟨RX7, "firstShare", "()D"⟩
abbrev cX7_meanLoad : ByteArray := prog_1_method_33_code
def yX7_meanLoad : MethodName := ⟨RX7, "meanLoad", "()F"⟩
abbrev cX7_undo : ByteArray := prog_1_method_34_code
def yX7_undo : MethodName := ⟨RX7, "undo", "()I"⟩
abbrev cX7_save : ByteArray := prog_1_method_35_code
def yX7_save : MethodName := ⟨RX7, "save", "()I"⟩
abbrev cX7_restore : ByteArray := prog_1_method_36_code
def yX7_restore : MethodName := ⟨RX7, "restore", "()I"⟩
abbrev cX7_freshDraft : ByteArray := prog_1_method_37_code
def yX7_freshDraft : MethodName := ⟨RX7, "freshDraft", "()LSaggarKiln$Works;"⟩
abbrev cX7_settle : ByteArray := prog_1_method_38_code
def yX7_settle : MethodName := ⟨RX7, "settle", "(I)I"⟩
abbrev cX7_doStep : ByteArray := prog_1_method_39_code
def yX7_doStep : MethodName := ⟨RX7, "doStep", "(LSaggarKiln$Works;I)I"⟩
abbrev cX7_needWare : ByteArray := prog_1_method_40_code
def yX7_needWare : MethodName := ⟨RX7, "needWare", "(I)V"⟩
abbrev cX7_needSaggar : ByteArray := prog_1_method_41_code
def yX7_needSaggar : MethodName := ⟨RX7, "needSaggar", "(I)V"⟩
abbrev cX7_needOrder : ByteArray := prog_1_method_42_code
def yX7_needOrder : MethodName := ⟨RX7, "needOrder", "(I)V"⟩
abbrev cX7_needRange : ByteArray := prog_1_method_43_code
def yX7_needRange : MethodName := ⟨RX7, "needRange", "(III)V"⟩
abbrev cX7_isFrom : ByteArray := prog_1_method_44_code
def yX7_isFrom : MethodName := ⟨RX7, "isFrom", "(III)Z"⟩
def RX8 : String := "SaggarKilnModel"
def TX8 : u_T := fun k => match k with
  | 0 => ("SaggarKilnModel", "s", "[I", true)
  | 1 => ("SaggarKilnModel", "before", "[I", true)
  | 2 => ("SaggarKilnModel", "aside", "[I", true)
  | 3 => ("SaggarKilnModel", "saved", "[I", true)
  | 4 => ("SaggarKilnModel", "isSaved", "Z", false)
  | 5 => ("SaggarKilnModel", "past", "[I", true)
  | 6 => ("SaggarKilnModel", "pastMany", "I", false)
  | 7 => ("SaggarKilnModel", "thrown", "I", false)
  | 8 => ("SaggarKilnModel", "reasons", "[I", true)
  | 9 => ("SaggarKilnModel", "details", "[I", true)
  | 10 => ("SaggarKilnModel", "reasonMany", "I", false)
  | 11 => ("SaggarKilnModel", "text", "[C", true)
  | 12 => ("SaggarKilnModel", "length", "I", false)
  | 13 => ("SaggarKilnModel", "place", "I", false)
  | 14 => ("SaggarKilnModel", "isWrong", "Z", false)
  | 15 => ("SaggarKilnModel", "fault", "I", false)
  | 16 => ("SaggarKilnModel", "steps", "[I", true)
  | _ => ("SaggarKilnModel", "stepMany", "I", false)
def tyX8 : Nat → FieldType := fun k => match k with
  | 0 => .array .int
  | 1 => .array .int
  | 2 => .array .int
  | 3 => .array .int
  | 4 => .boolean
  | 5 => .array .int
  | 6 => .int
  | 7 => .int
  | 8 => .array .int
  | 9 => .array .int
  | 10 => .int
  | 11 => .array .char
  | 12 => .int
  | 13 => .int
  | 14 => .boolean
  | 15 => .int
  | 16 => .array .int
  | _ => .int
abbrev wsX80 : List Cond := u_ws RX8 TX8 18
theorem nmX8 : ∀ a, a < 18 → ∀ b, b < 18 → a ≠ b → (TX8 a).2.1 ≠ (TX8 b).2.1 := by decide +kernel
theorem tyX8_ok : ∀ k, k < 18 → parseFieldDescriptor (TX8 k).2.2.1 = some (tyX8 k) := by decide +kernel
abbrev cX8_init : ByteArray := prog_10_method_1_code
def yX8_init : MethodName := ⟨RX8, "<init>", "()V"⟩
abbrev cX8_thrown : ByteArray := prog_10_method_2_code
def yX8_thrown : MethodName := ⟨RX8, "thrown", "()I"⟩
abbrev cX8_in : ByteArray := prog_10_method_3_code
def yX8_in : MethodName := ⟨RX8, "in", "(III)Z"⟩
abbrev cX8_keep : ByteArray := prog_10_method_4_code
def yX8_keep : MethodName := ⟨RX8, "keep", "()V"⟩
abbrev cX8_ends : ByteArray := prog_10_method_5_code
def yX8_ends : MethodName := ⟨RX8, "ends", "(I)I"⟩
abbrev cX8_fails : ByteArray := prog_10_method_6_code
def yX8_fails : MethodName := ⟨RX8, "fails", "(I)I"⟩
abbrev cX8_refuse : ByteArray := prog_10_method_7_code
def yX8_refuse : MethodName := ⟨RX8, "refuse", "(III)I"⟩
abbrev cX8_refuseBefore : ByteArray := prog_10_method_8_code
def yX8_refuseBefore : MethodName := ⟨RX8, "refuseBefore", "(III)V"⟩
abbrev cX8_refusal : ByteArray := prog_10_method_9_code
def yX8_refusal : MethodName := ⟨RX8, "refusal", "(IZ)I"⟩
abbrev cX8_at : ByteArray := prog_10_method_10_code
def yX8_at : MethodName := ⟨RX8, "at", "(I)I"⟩
abbrev cX8_get : ByteArray := prog_10_method_11_code
def yX8_get : MethodName := ⟨RX8, "get", "(II)I"⟩
abbrev cX8_sizeOf : ByteArray := prog_10_method_12_code
def yX8_sizeOf : MethodName := ⟨RX8, "sizeOf", "(I)I"⟩
abbrev cX8_size : ByteArray := prog_10_method_13_code
def yX8_size : MethodName := ⟨RX8, "size", "(I)I"⟩
abbrev cX8_isWare : ByteArray := prog_10_method_14_code
def yX8_isWare : MethodName := ⟨RX8, "isWare", "(I)Z"⟩
abbrev cX8_set : ByteArray := prog_10_method_15_code
def yX8_set : MethodName := ⟨RX8, "set", "(II)I"⟩
abbrev cX8_clay : ByteArray := prog_10_method_16_code
def yX8_clay : MethodName := ⟨RX8, "clay", "(I)I"⟩
abbrev cX8_doCast : ByteArray := prog_10_method_17_code
def yX8_doCast : MethodName := ⟨RX8, "doCast", "(III)I"⟩
abbrev cX8_cast : ByteArray := prog_10_method_18_code
def yX8_cast : MethodName := ⟨RX8, "cast", "(III)I"⟩
abbrev cX8_meltsAt : ByteArray := prog_10_method_19_code
def yX8_meltsAt : MethodName := ⟨RX8, "meltsAt", "(II)I"⟩
abbrev cX8_doGlaze : ByteArray := prog_10_method_20_code
def yX8_doGlaze : MethodName := ⟨RX8, "doGlaze", "(III)I"⟩
abbrev cX8_glaze : ByteArray := prog_10_method_21_code
def yX8_glaze : MethodName := ⟨RX8, "glaze", "(III)I"⟩
abbrev cX8_needOf : ByteArray := prog_10_method_22_code
def yX8_needOf : MethodName := ⟨RX8, "needOf", "(I)I"⟩
abbrev cX8_classBy : ByteArray := prog_10_method_23_code
def yX8_classBy : MethodName := ⟨RX8, "classBy", "(II)I"⟩
abbrev cX8_saggarAt : ByteArray := prog_10_method_24_code
def yX8_saggarAt : MethodName := ⟨RX8, "saggarAt", "(I)I"⟩
abbrev cX8_getSaggar : ByteArray := prog_10_method_25_code
def yX8_getSaggar : MethodName := ⟨RX8, "getSaggar", "(II)I"⟩
abbrev cX8_isSaggar : ByteArray := prog_10_method_26_code
def yX8_isSaggar : MethodName := ⟨RX8, "isSaggar", "(I)Z"⟩
abbrev cX8_isOnFloor : ByteArray := prog_10_method_27_code
def yX8_isOnFloor : MethodName := ⟨RX8, "isOnFloor", "(I)Z"⟩
abbrev cX8_heldIn : ByteArray := prog_10_method_28_code
def yX8_heldIn : MethodName := ⟨RX8, "heldIn", "(I)I"⟩
abbrev cX8_manyIn : ByteArray := prog_10_method_29_code
def yX8_manyIn : MethodName := ⟨RX8, "manyIn", "(I)I"⟩
abbrev cX8_weightOf : ByteArray := prog_10_method_30_code
def yX8_weightOf : MethodName := ⟨RX8, "weightOf", "(I)I"⟩
abbrev cX8_loadOf : ByteArray := prog_10_method_31_code
def yX8_loadOf : MethodName := ⟨RX8, "loadOf", "(I)I"⟩
abbrev cX8_levelOf : ByteArray := prog_10_method_32_code
def yX8_levelOf : MethodName := ⟨RX8, "levelOf", "(I)I"⟩
abbrev cX8_overloaded : ByteArray := prog_10_method_33_code
def yX8_overloaded : MethodName := ⟨RX8, "overloaded", "(II)I"⟩
abbrev cX8_footOf : ByteArray := prog_10_method_34_code
def yX8_footOf : MethodName := ⟨RX8, "footOf", "(I)I"⟩
abbrev cX8_saggar : ByteArray := prog_10_method_35_code
def yX8_saggar : MethodName := ⟨RX8, "saggar", "()I"⟩
abbrev cX8_stack : ByteArray := prog_10_method_36_code
def yX8_stack : MethodName := ⟨RX8, "stack", "(III)I"⟩
abbrev cX8_unstack : ByteArray := prog_10_method_37_code
def yX8_unstack : MethodName := ⟨RX8, "unstack", "(I)I"⟩
abbrev cX8_doPut : ByteArray := prog_10_method_38_code
def yX8_doPut : MethodName := ⟨RX8, "doPut", "(II)I"⟩
abbrev cX8_put : ByteArray := prog_10_method_39_code
def yX8_put : MethodName := ⟨RX8, "put", "(II)I"⟩
abbrev cX8_heatBy : ByteArray := prog_10_method_40_code
def yX8_heatBy : MethodName := ⟨RX8, "heatBy", "(II)I"⟩
abbrev cX8_isToFire : ByteArray := prog_10_method_41_code
def yX8_isToFire : MethodName := ⟨RX8, "isToFire", "(I)Z"⟩
abbrev cX8_isAnyToFire : ByteArray := prog_10_method_42_code
def yX8_isAnyToFire : MethodName := ⟨RX8, "isAnyToFire", "()Z"⟩
abbrev cX8_firstsBy : ByteArray := prog_10_method_43_code
def yX8_firstsBy : MethodName := ⟨RX8, "firstsBy", "(I)I"⟩
abbrev cX8_doFire : ByteArray := prog_10_method_44_code
def yX8_doFire : MethodName := ⟨RX8, "doFire", "(I)I"⟩
abbrev cX8_fire : ByteArray := prog_10_method_45_code
def yX8_fire : MethodName := ⟨RX8, "fire", "(I)I"⟩
abbrev cX8_doEmpty : ByteArray := prog_10_method_46_code
def yX8_doEmpty : MethodName := ⟨RX8, "doEmpty", "(I)I"⟩
abbrev cX8_empty : ByteArray := prog_10_method_47_code
def yX8_empty : MethodName := ⟨RX8, "empty", "(I)I"⟩
abbrev cX8_orderAt : ByteArray := prog_10_method_48_code
def yX8_orderAt : MethodName := ⟨RX8, "orderAt", "(I)I"⟩
abbrev cX8_isOrder : ByteArray := prog_10_method_49_code
def yX8_isOrder : MethodName := ⟨RX8, "isOrder", "(I)Z"⟩
abbrev cX8_order : ByteArray := prog_10_method_50_code
def yX8_order : MethodName := ⟨RX8, "order", "(IIIIIZ)I"⟩
abbrev cX8_isInStore : ByteArray := prog_10_method_51_code
def yX8_isInStore : MethodName := ⟨RX8, "isInStore", "(IIIZ)Z"⟩
abbrev cX8_mayBeSold : ByteArray := prog_10_method_52_code
def yX8_mayBeSold : MethodName := ⟨RX8, "mayBeSold", "(III)Z"⟩
abbrev cX8_saleable : ByteArray := prog_10_method_53_code
def yX8_saleable : MethodName := ⟨RX8, "saleable", "(II)I"⟩
abbrev cX8_goSell : ByteArray := prog_10_method_54_code
def yX8_goSell : MethodName := ⟨RX8, "goSell", "(I)I"⟩
abbrev cX8_doSell : ByteArray := prog_10_method_55_code
def yX8_doSell : MethodName := ⟨RX8, "doSell", "(I)I"⟩
abbrev cX8_sell : ByteArray := prog_10_method_56_code
def yX8_sell : MethodName := ⟨RX8, "sell", "(I)I"⟩
abbrev cX8_ware : ByteArray := prog_10_method_57_code
def yX8_ware : MethodName := ⟨RX8, "ware", "(II)I"⟩
abbrev cX8_saggarOf : ByteArray := prog_10_method_58_code
def yX8_saggarOf : MethodName := ⟨RX8, "saggarOf", "(II)I"⟩
abbrev cX8_load : ByteArray := prog_10_method_59_code
def yX8_load : MethodName := ⟨RX8, "load", "(I)I"⟩
abbrev cX8_loadAgain : ByteArray := prog_10_method_60_code
def yX8_loadAgain : MethodName := ⟨RX8, "loadAgain", "(I)I"⟩
abbrev cX8_orderOf : ByteArray := prog_10_method_61_code
def yX8_orderOf : MethodName := ⟨RX8, "orderOf", "(II)I"⟩
abbrev cX8_sign : ByteArray := prog_10_method_62_code
def yX8_sign : MethodName := ⟨RX8, "sign", "(I)C"⟩
abbrev cX8_store : ByteArray := prog_10_method_63_code
def yX8_store : MethodName := ⟨RX8, "store", "(IIZ)I"⟩
abbrev cX8_heatAt : ByteArray := prog_10_method_64_code
def yX8_heatAt : MethodName := ⟨RX8, "heatAt", "(II)I"⟩
abbrev cX8_wouldBe : ByteArray := prog_10_method_65_code
def yX8_wouldBe : MethodName := ⟨RX8, "wouldBe", "(II)I"⟩
abbrev cX8_bestHeat : ByteArray := prog_10_method_66_code
def yX8_bestHeat : MethodName := ⟨RX8, "bestHeat", "(Z)I"⟩
abbrev cX8_sets : ByteArray := prog_10_method_67_code
def yX8_sets : MethodName := ⟨RX8, "sets", "(I)I"⟩
abbrev cX8_setsAgain : ByteArray := prog_10_method_68_code
def yX8_setsAgain : MethodName := ⟨RX8, "setsAgain", "(I)I"⟩
abbrev cX8_append : ByteArray := prog_10_method_69_code
def yX8_append : MethodName := ⟨RX8, "append", "(C)I"⟩
abbrev cX8_isHere : ByteArray := prog_10_method_70_code
def yX8_isHere : MethodName := ⟨RX8, "isHere", "(CC)Z"⟩
abbrev cX8_sign_ : ByteArray := prog_10_method_71_code
def yX8_sign_ : MethodName := ⟨RX8, "sign", "(CC)I"⟩
abbrev cX8_digit : ByteArray := prog_10_method_72_code
def yX8_digit : MethodName := ⟨RX8, "digit", "()I"⟩
abbrev cX8_digitBehind : ByteArray := prog_10_method_73_code
def yX8_digitBehind : MethodName := ⟨RX8, "digitBehind", "(C)I"⟩
abbrev cX8_number : ByteArray := prog_10_method_74_code
def yX8_number : MethodName := ⟨RX8, "number", "()I"⟩
abbrev cX8_readStep : ByteArray := prog_10_method_75_code
def yX8_readStep : MethodName := ⟨RX8, "readStep", "()V"⟩
abbrev cX8_isRefused : ByteArray := prog_10_method_76_code
def yX8_isRefused : MethodName := ⟨RX8, "isRefused", "(I)Z"⟩
abbrev cX8_read : ByteArray := prog_10_method_77_code
def yX8_read : MethodName := ⟨RX8, "read", "()I"⟩
abbrev cX8_faultPosition : ByteArray := prog_10_method_78_code
def yX8_faultPosition : MethodName := ⟨RX8, "faultPosition", "()I"⟩
abbrev cX8_inState : ByteArray := prog_10_method_79_code
def yX8_inState : MethodName := ⟨RX8, "inState", "(I)I"⟩
abbrev cX8_inKiln : ByteArray := prog_10_method_80_code
def yX8_inKiln : MethodName := ⟨RX8, "inKiln", "()I"⟩
abbrev cX8_setsSold : ByteArray := prog_10_method_81_code
def yX8_setsSold : MethodName := ⟨RX8, "setsSold", "()I"⟩
abbrev cX8_account : ByteArray := prog_10_method_82_code
def yX8_account : MethodName := ⟨RX8, "account", "(I)I"⟩
abbrev cX8_isBalanced : ByteArray := prog_10_method_83_code
def yX8_isBalanced : MethodName := ⟨RX8, "isBalanced", "()Z"⟩
abbrev cX8_firstShare : ByteArray := prog_10_method_84_code
def yX8_firstShare : MethodName := ⟨RX8, "firstShare", "()D"⟩
abbrev cX8_meanLoad : ByteArray := prog_10_method_85_code
def yX8_meanLoad : MethodName := ⟨RX8, "meanLoad", "()F"⟩
abbrev cX8_undo : ByteArray := prog_10_method_86_code
def yX8_undo : MethodName := ⟨RX8, "undo", "()I"⟩
abbrev cX8_save : ByteArray := prog_10_method_87_code
def yX8_save : MethodName := ⟨RX8, "save", "()I"⟩
abbrev cX8_restore : ByteArray := prog_10_method_88_code
def yX8_restore : MethodName := ⟨RX8, "restore", "()I"⟩
def RL : String := "SaggarKilnLaw"
abbrev cL_set : ByteArray := method_3_code
def yL_set : MethodName := ⟨RL, "set", "(LSaggarKiln;II[J)I"⟩
abbrev cL_clay : ByteArray := method_4_code
def yL_clay : MethodName := ⟨RL, "clay", "(LSaggarKiln;I[J)I"⟩
abbrev cL_cast : ByteArray := method_5_code
def yL_cast : MethodName := ⟨RL, "cast", "(LSaggarKiln;III[J)I"⟩
abbrev cL_glaze : ByteArray := method_6_code
def yL_glaze : MethodName := ⟨RL, "glaze", "(LSaggarKiln;III[J)I"⟩
abbrev cL_saggar : ByteArray := method_7_code
def yL_saggar : MethodName := ⟨RL, "saggar", "(LSaggarKiln;[J)I"⟩
abbrev cL_stack : ByteArray := method_8_code
def yL_stack : MethodName := ⟨RL, "stack", "(LSaggarKiln;III[J)I"⟩
abbrev cL_unstack : ByteArray := method_9_code
def yL_unstack : MethodName := ⟨RL, "unstack", "(LSaggarKiln;I[J)I"⟩
abbrev cL_put : ByteArray := method_10_code
def yL_put : MethodName := ⟨RL, "put", "(LSaggarKiln;II[J)I"⟩
abbrev cL_fire : ByteArray := method_11_code
def yL_fire : MethodName := ⟨RL, "fire", "(LSaggarKiln;I[J)I"⟩
abbrev cL_empty : ByteArray := method_12_code
def yL_empty : MethodName := ⟨RL, "empty", "(LSaggarKiln;I[J)I"⟩
abbrev cL_order : ByteArray := method_13_code
def yL_order : MethodName := ⟨RL, "order", "(LSaggarKiln;IIIIIZ[J)I"⟩
abbrev cL_sell : ByteArray := method_14_code
def yL_sell : MethodName := ⟨RL, "sell", "(LSaggarKiln;I[J)I"⟩
abbrev cL_ware : ByteArray := method_15_code
def yL_ware : MethodName := ⟨RL, "ware", "(LSaggarKiln;II[J)I"⟩
abbrev cL_saggarOf : ByteArray := method_16_code
def yL_saggarOf : MethodName := ⟨RL, "saggarOf", "(LSaggarKiln;II[J)I"⟩
abbrev cL_load : ByteArray := method_17_code
def yL_load : MethodName := ⟨RL, "load", "(LSaggarKiln;I[J)I"⟩
abbrev cL_loadAgain : ByteArray := method_18_code
def yL_loadAgain : MethodName := ⟨RL, "loadAgain", "(LSaggarKiln;I[J)I"⟩
abbrev cL_orderOf : ByteArray := method_19_code
def yL_orderOf : MethodName := ⟨RL, "orderOf", "(LSaggarKiln;II[J)I"⟩
abbrev cL_sign : ByteArray := method_20_code
def yL_sign : MethodName := ⟨RL, "sign", "(LSaggarKiln;I[J)I"⟩
abbrev cL_store : ByteArray := method_21_code
def yL_store : MethodName := ⟨RL, "store", "(LSaggarKiln;IIZ[J)I"⟩
abbrev cL_heatAt : ByteArray := method_22_code
def yL_heatAt : MethodName := ⟨RL, "heatAt", "(LSaggarKiln;II[J)I"⟩
abbrev cL_wouldBe : ByteArray := method_23_code
def yL_wouldBe : MethodName := ⟨RL, "wouldBe", "(LSaggarKiln;II[J)I"⟩
abbrev cL_bestHeat : ByteArray := method_24_code
def yL_bestHeat : MethodName := ⟨RL, "bestHeat", "(LSaggarKiln;Z[J)I"⟩
abbrev cL_sets : ByteArray := method_25_code
def yL_sets : MethodName := ⟨RL, "sets", "(LSaggarKiln;I[J)I"⟩
abbrev cL_setsAgain : ByteArray := method_26_code
def yL_setsAgain : MethodName := ⟨RL, "setsAgain", "(LSaggarKiln;I[J)I"⟩
abbrev cL_append : ByteArray := method_27_code
def yL_append : MethodName := ⟨RL, "append", "(LSaggarKiln;C[J)I"⟩
abbrev cL_read : ByteArray := method_28_code
def yL_read : MethodName := ⟨RL, "read", "(LSaggarKiln;[J)I"⟩
abbrev cL_refusal : ByteArray := method_29_code
def yL_refusal : MethodName := ⟨RL, "refusal", "(LSaggarKiln;IZ[J)I"⟩
abbrev cL_account : ByteArray := method_30_code
def yL_account : MethodName := ⟨RL, "account", "(LSaggarKiln;I[J)I"⟩
abbrev cL_firstShare : ByteArray := method_31_code
def yL_firstShare : MethodName := ⟨RL, "firstShare", "(LSaggarKiln;[D)I"⟩
abbrev cL_meanLoad : ByteArray := method_32_code
def yL_meanLoad : MethodName := ⟨RL, "meanLoad", "(LSaggarKiln;[D)I"⟩
abbrev cL_undo : ByteArray := method_33_code
def yL_undo : MethodName := ⟨RL, "undo", "(LSaggarKiln;[J)I"⟩
abbrev cL_restore : ByteArray := method_34_code
def yL_restore : MethodName := ⟨RL, "restore", "(LSaggarKiln;[J)I"⟩
abbrev cL_law : ByteArray := code
def yL_law : MethodName := ⟨RL, "law", "([I)Z"⟩
