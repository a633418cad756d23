-- ===== PART A: goes FIRST, ahead of the names: the tables' words, and 'selects' of the private methods out of them =====
/-- a private method of a class that the tables say can be made, by its rows of tables_1 -/
def lw_okq (q : MethodName × Nat) : Prop := (q.1.cls ≠ "java/lang/invoke/MethodHandle" ∧ q.1.cls ≠ "java/lang/invoke/VarHandle") ∧ Cond.instantiable q.1.cls q.2 ∈ tables_1 ∧ Cond.privateMethod q.1 ∈ tables_1 ∧ Cond.instanceMethod q.1 ∈ tables_1
theorem lw_p0 : lw_okq (⟨"MountainFarms", "finding", "(I)I"⟩, 8) := ⟨⟨by decide +kernel, by decide +kernel⟩, List.mem_of_getElem? (i := 20) (by decide +kernel), List.mem_of_getElem? (i := 284) (by decide +kernel), List.mem_of_getElem? (i := 285) (by decide +kernel)⟩
theorem lw_p1 : lw_okq (⟨"MountainFarms$Ground", "lavaGoesOn", "(I)I"⟩, 5) := ⟨⟨by decide +kernel, by decide +kernel⟩, List.mem_of_getElem? (i := 34) (by decide +kernel), List.mem_of_getElem? (i := 494) (by decide +kernel), List.mem_of_getElem? (i := 495) (by decide +kernel)⟩
theorem lw_p2 : lw_okq (⟨"MountainFarms", "hitWith", "(III)I"⟩, 8) := ⟨⟨by decide +kernel, by decide +kernel⟩, List.mem_of_getElem? (i := 20) (by decide +kernel), List.mem_of_getElem? (i := 504) (by decide +kernel), List.mem_of_getElem? (i := 505) (by decide +kernel)⟩
theorem lw_p3 : lw_okq (⟨"MountainFarms$Slope", "eruptNow", "()V"⟩, 9) := ⟨⟨by decide +kernel, by decide +kernel⟩, List.mem_of_getElem? (i := 28) (by decide +kernel), List.mem_of_getElem? (i := 560) (by decide +kernel), List.mem_of_getElem? (i := 561) (by decide +kernel)⟩
theorem lw_p4 : lw_okq (⟨"MountainFarms$Tape", "endWord", "()V"⟩, 6) := ⟨⟨by decide +kernel, by decide +kernel⟩, List.mem_of_getElem? (i := 197) (by decide +kernel), List.mem_of_getElem? (i := 661) (by decide +kernel), List.mem_of_getElem? (i := 662) (by decide +kernel)⟩
theorem lw_p5 : lw_okq (⟨"MountainFarms$Tape", "endNumber", "()V"⟩, 6) := ⟨⟨by decide +kernel, by decide +kernel⟩, List.mem_of_getElem? (i := 197) (by decide +kernel), List.mem_of_getElem? (i := 668) (by decide +kernel), List.mem_of_getElem? (i := 669) (by decide +kernel)⟩
theorem lw_p6 : lw_okq (⟨"MountainFarms$SlopeText", "readItem", "(LMountainFarms$Slope;)Z"⟩, 1) := ⟨⟨by decide +kernel, by decide +kernel⟩, List.mem_of_getElem? (i := 191) (by decide +kernel), List.mem_of_getElem? (i := 673) (by decide +kernel), List.mem_of_getElem? (i := 674) (by decide +kernel)⟩
theorem lw_p7 : lw_okq (⟨"MountainFarms$SlopeText", "kindHere", "()I"⟩, 1) := ⟨⟨by decide +kernel, by decide +kernel⟩, List.mem_of_getElem? (i := 191) (by decide +kernel), List.mem_of_getElem? (i := 677) (by decide +kernel), List.mem_of_getElem? (i := 678) (by decide +kernel)⟩
theorem lw_p8 : lw_okq (⟨"MountainFarms$SlopeText", "readFarm", "(ILMountainFarms$Farms;)Z"⟩, 1) := ⟨⟨by decide +kernel, by decide +kernel⟩, List.mem_of_getElem? (i := 191) (by decide +kernel), List.mem_of_getElem? (i := 742) (by decide +kernel), List.mem_of_getElem? (i := 743) (by decide +kernel)⟩
theorem lw_p9 : lw_okq (⟨"MountainFarms$SlopeText", "readWall", "(LMountainFarms$Ground;)Z"⟩, 1) := ⟨⟨by decide +kernel, by decide +kernel⟩, List.mem_of_getElem? (i := 191) (by decide +kernel), List.mem_of_getElem? (i := 757) (by decide +kernel), List.mem_of_getElem? (i := 758) (by decide +kernel)⟩
theorem lw_p10 : lw_okq (⟨"MountainFarms$SlopeText", "readLevel", "([I)Z"⟩, 1) := ⟨⟨by decide +kernel, by decide +kernel⟩, List.mem_of_getElem? (i := 191) (by decide +kernel), List.mem_of_getElem? (i := 764) (by decide +kernel), List.mem_of_getElem? (i := 765) (by decide +kernel)⟩
theorem lw_p11 : lw_okq (⟨"MountainFarms$SlopeText", "readVent", "(LMountainFarms$Ground;)Z"⟩, 1) := ⟨⟨by decide +kernel, by decide +kernel⟩, List.mem_of_getElem? (i := 191) (by decide +kernel), List.mem_of_getElem? (i := 771) (by decide +kernel), List.mem_of_getElem? (i := 772) (by decide +kernel)⟩
theorem lw_p12 : lw_okq (⟨"MountainFarms$SlopeText", "readTenths", "(ILMountainFarms$Mountain;)Z"⟩, 1) := ⟨⟨by decide +kernel, by decide +kernel⟩, List.mem_of_getElem? (i := 191) (by decide +kernel), List.mem_of_getElem? (i := 776) (by decide +kernel), List.mem_of_getElem? (i := 777) (by decide +kernel)⟩
theorem lw_p13 : lw_okq (⟨"MountainFarms$SlopeText", "readDiary", "(LMountainFarms$Mountain;)Z"⟩, 1) := ⟨⟨by decide +kernel, by decide +kernel⟩, List.mem_of_getElem? (i := 191) (by decide +kernel), List.mem_of_getElem? (i := 783) (by decide +kernel), List.mem_of_getElem? (i := 784) (by decide +kernel)⟩
theorem lw_p14 : lw_okq (⟨"MountainFarmsModel", "finding", "(I)I"⟩, 25) := ⟨⟨by decide +kernel, by decide +kernel⟩, List.mem_of_getElem? (i := 872) (by decide +kernel), List.mem_of_getElem? (i := 975) (by decide +kernel), List.mem_of_getElem? (i := 976) (by decide +kernel)⟩
theorem lw_p15 : lw_okq (⟨"MountainFarmsModel", "become", "(II)I"⟩, 25) := ⟨⟨by decide +kernel, by decide +kernel⟩, List.mem_of_getElem? (i := 872) (by decide +kernel), List.mem_of_getElem? (i := 979) (by decide +kernel), List.mem_of_getElem? (i := 980) (by decide +kernel)⟩
def lw_privs_1 : List (MethodName × Nat) := [(⟨"MountainFarms", "finding", "(I)I"⟩, 8), (⟨"MountainFarms$Ground", "lavaGoesOn", "(I)I"⟩, 5), (⟨"MountainFarms", "hitWith", "(III)I"⟩, 8), (⟨"MountainFarms$Slope", "eruptNow", "()V"⟩, 9), (⟨"MountainFarms$Tape", "endWord", "()V"⟩, 6), (⟨"MountainFarms$Tape", "endNumber", "()V"⟩, 6), (⟨"MountainFarms$SlopeText", "readItem", "(LMountainFarms$Slope;)Z"⟩, 1), (⟨"MountainFarms$SlopeText", "kindHere", "()I"⟩, 1), (⟨"MountainFarms$SlopeText", "readFarm", "(ILMountainFarms$Farms;)Z"⟩, 1), (⟨"MountainFarms$SlopeText", "readWall", "(LMountainFarms$Ground;)Z"⟩, 1), (⟨"MountainFarms$SlopeText", "readLevel", "([I)Z"⟩, 1), (⟨"MountainFarms$SlopeText", "readVent", "(LMountainFarms$Ground;)Z"⟩, 1), (⟨"MountainFarms$SlopeText", "readTenths", "(ILMountainFarms$Mountain;)Z"⟩, 1), (⟨"MountainFarms$SlopeText", "readDiary", "(LMountainFarms$Mountain;)Z"⟩, 1), (⟨"MountainFarmsModel", "finding", "(I)I"⟩, 25), (⟨"MountainFarmsModel", "become", "(II)I"⟩, 25)]
theorem lw_r1 : ∀ q ∈ lw_privs_1, lw_okq q := List.forall_mem_cons.mpr ⟨lw_p0, List.forall_mem_cons.mpr ⟨lw_p1, List.forall_mem_cons.mpr ⟨lw_p2, List.forall_mem_cons.mpr ⟨lw_p3, List.forall_mem_cons.mpr ⟨lw_p4, List.forall_mem_cons.mpr ⟨lw_p5, List.forall_mem_cons.mpr ⟨lw_p6, List.forall_mem_cons.mpr ⟨lw_p7, List.forall_mem_cons.mpr ⟨lw_p8, List.forall_mem_cons.mpr ⟨lw_p9, List.forall_mem_cons.mpr ⟨lw_p10, List.forall_mem_cons.mpr ⟨lw_p11, List.forall_mem_cons.mpr ⟨lw_p12, List.forall_mem_cons.mpr ⟨lw_p13, List.forall_mem_cons.mpr ⟨lw_p14, List.forall_mem_cons.mpr ⟨lw_p15, fun _ h => absurd h List.not_mem_nil⟩⟩⟩⟩⟩⟩⟩⟩⟩⟩⟩⟩⟩⟩⟩⟩
theorem lw_p16 : lw_okq (⟨"MountainFarmsModel", "farmAt", "(I)I"⟩, 25) := ⟨⟨by decide +kernel, by decide +kernel⟩, List.mem_of_getElem? (i := 872) (by decide +kernel), List.mem_of_getElem? (i := 987) (by decide +kernel), List.mem_of_getElem? (i := 988) (by decide +kernel)⟩
theorem lw_p17 : lw_okq (⟨"MountainFarmsModel", "farmIs", "(II)I"⟩, 25) := ⟨⟨by decide +kernel, by decide +kernel⟩, List.mem_of_getElem? (i := 872) (by decide +kernel), List.mem_of_getElem? (i := 991) (by decide +kernel), List.mem_of_getElem? (i := 992) (by decide +kernel)⟩
theorem lw_p18 : lw_okq (⟨"MountainFarmsModel", "wayTo", "(II)I"⟩, 25) := ⟨⟨by decide +kernel, by decide +kernel⟩, List.mem_of_getElem? (i := 872) (by decide +kernel), List.mem_of_getElem? (i := 1003) (by decide +kernel), List.mem_of_getElem? (i := 1004) (by decide +kernel)⟩
theorem lw_p19 : lw_okq (⟨"MountainFarmsModel", "cellIn", "(II)I"⟩, 25) := ⟨⟨by decide +kernel, by decide +kernel⟩, List.mem_of_getElem? (i := 872) (by decide +kernel), List.mem_of_getElem? (i := 1007) (by decide +kernel), List.mem_of_getElem? (i := 1008) (by decide +kernel)⟩
theorem lw_p20 : lw_okq (⟨"MountainFarmsModel", "hasWall", "(II)Z"⟩, 25) := ⟨⟨by decide +kernel, by decide +kernel⟩, List.mem_of_getElem? (i := 872) (by decide +kernel), List.mem_of_getElem? (i := 1011) (by decide +kernel), List.mem_of_getElem? (i := 1012) (by decide +kernel)⟩
theorem lw_p21 : lw_okq (⟨"MountainFarmsModel", "putWall", "(IIZ)V"⟩, 25) := ⟨⟨by decide +kernel, by decide +kernel⟩, List.mem_of_getElem? (i := 872) (by decide +kernel), List.mem_of_getElem? (i := 1015) (by decide +kernel), List.mem_of_getElem? (i := 1016) (by decide +kernel)⟩
theorem lw_p22 : lw_okq (⟨"MountainFarmsModel", "built", "(III)I"⟩, 25) := ⟨⟨by decide +kernel, by decide +kernel⟩, List.mem_of_getElem? (i := 872) (by decide +kernel), List.mem_of_getElem? (i := 1028) (by decide +kernel), List.mem_of_getElem? (i := 1029) (by decide +kernel)⟩
theorem lw_p23 : lw_okq (⟨"MountainFarmsModel", "isFarm", "(I)Z"⟩, 25) := ⟨⟨by decide +kernel, by decide +kernel⟩, List.mem_of_getElem? (i := 872) (by decide +kernel), List.mem_of_getElem? (i := 1036) (by decide +kernel), List.mem_of_getElem? (i := 1037) (by decide +kernel)⟩
theorem lw_p24 : lw_okq (⟨"MountainFarmsModel", "bears", "(I)I"⟩, 25) := ⟨⟨by decide +kernel, by decide +kernel⟩, List.mem_of_getElem? (i := 872) (by decide +kernel), List.mem_of_getElem? (i := 1040) (by decide +kernel), List.mem_of_getElem? (i := 1041) (by decide +kernel)⟩
theorem lw_p25 : lw_okq (⟨"MountainFarmsModel", "coinsOf", "(I)I"⟩, 25) := ⟨⟨by decide +kernel, by decide +kernel⟩, List.mem_of_getElem? (i := 872) (by decide +kernel), List.mem_of_getElem? (i := 1068) (by decide +kernel), List.mem_of_getElem? (i := 1069) (by decide +kernel)⟩
theorem lw_p26 : lw_okq (⟨"MountainFarmsModel", "putTenths", "(IIII)V"⟩, 25) := ⟨⟨by decide +kernel, by decide +kernel⟩, List.mem_of_getElem? (i := 872) (by decide +kernel), List.mem_of_getElem? (i := 1087) (by decide +kernel), List.mem_of_getElem? (i := 1088) (by decide +kernel)⟩
theorem lw_p27 : lw_okq (⟨"MountainFarmsModel", "weigh", "()J"⟩, 25) := ⟨⟨by decide +kernel, by decide +kernel⟩, List.mem_of_getElem? (i := 872) (by decide +kernel), List.mem_of_getElem? (i := 1107) (by decide +kernel), List.mem_of_getElem? (i := 1108) (by decide +kernel)⟩
theorem lw_p28 : lw_okq (⟨"MountainFarmsModel", "seen", "(I)V"⟩, 25) := ⟨⟨by decide +kernel, by decide +kernel⟩, List.mem_of_getElem? (i := 872) (by decide +kernel), List.mem_of_getElem? (i := 1112) (by decide +kernel), List.mem_of_getElem? (i := 1113) (by decide +kernel)⟩
theorem lw_p29 : lw_okq (⟨"MountainFarmsModel", "all", "()J"⟩, 25) := ⟨⟨by decide +kernel, by decide +kernel⟩, List.mem_of_getElem? (i := 872) (by decide +kernel), List.mem_of_getElem? (i := 1116) (by decide +kernel), List.mem_of_getElem? (i := 1117) (by decide +kernel)⟩
theorem lw_p30 : lw_okq (⟨"MountainFarmsModel", "asked", "(II)J"⟩, 25) := ⟨⟨by decide +kernel, by decide +kernel⟩, List.mem_of_getElem? (i := 872) (by decide +kernel), List.mem_of_getElem? (i := 1142) (by decide +kernel), List.mem_of_getElem? (i := 1143) (by decide +kernel)⟩
theorem lw_p31 : lw_okq (⟨"MountainFarmsModel", "lava", "(II)J"⟩, 25) := ⟨⟨by decide +kernel, by decide +kernel⟩, List.mem_of_getElem? (i := 872) (by decide +kernel), List.mem_of_getElem? (i := 1149) (by decide +kernel), List.mem_of_getElem? (i := 1150) (by decide +kernel)⟩
def lw_privs_2 : List (MethodName × Nat) := [(⟨"MountainFarmsModel", "farmAt", "(I)I"⟩, 25), (⟨"MountainFarmsModel", "farmIs", "(II)I"⟩, 25), (⟨"MountainFarmsModel", "wayTo", "(II)I"⟩, 25), (⟨"MountainFarmsModel", "cellIn", "(II)I"⟩, 25), (⟨"MountainFarmsModel", "hasWall", "(II)Z"⟩, 25), (⟨"MountainFarmsModel", "putWall", "(IIZ)V"⟩, 25), (⟨"MountainFarmsModel", "built", "(III)I"⟩, 25), (⟨"MountainFarmsModel", "isFarm", "(I)Z"⟩, 25), (⟨"MountainFarmsModel", "bears", "(I)I"⟩, 25), (⟨"MountainFarmsModel", "coinsOf", "(I)I"⟩, 25), (⟨"MountainFarmsModel", "putTenths", "(IIII)V"⟩, 25), (⟨"MountainFarmsModel", "weigh", "()J"⟩, 25), (⟨"MountainFarmsModel", "seen", "(I)V"⟩, 25), (⟨"MountainFarmsModel", "all", "()J"⟩, 25), (⟨"MountainFarmsModel", "asked", "(II)J"⟩, 25), (⟨"MountainFarmsModel", "lava", "(II)J"⟩, 25)]
theorem lw_r2 : ∀ q ∈ lw_privs_2, lw_okq q := List.forall_mem_cons.mpr ⟨lw_p16, List.forall_mem_cons.mpr ⟨lw_p17, List.forall_mem_cons.mpr ⟨lw_p18, List.forall_mem_cons.mpr ⟨lw_p19, List.forall_mem_cons.mpr ⟨lw_p20, List.forall_mem_cons.mpr ⟨lw_p21, List.forall_mem_cons.mpr ⟨lw_p22, List.forall_mem_cons.mpr ⟨lw_p23, List.forall_mem_cons.mpr ⟨lw_p24, List.forall_mem_cons.mpr ⟨lw_p25, List.forall_mem_cons.mpr ⟨lw_p26, List.forall_mem_cons.mpr ⟨lw_p27, List.forall_mem_cons.mpr ⟨lw_p28, List.forall_mem_cons.mpr ⟨lw_p29, List.forall_mem_cons.mpr ⟨lw_p30, List.forall_mem_cons.mpr ⟨lw_p31, fun _ h => absurd h List.not_mem_nil⟩⟩⟩⟩⟩⟩⟩⟩⟩⟩⟩⟩⟩⟩⟩⟩
theorem lw_p32 : lw_okq (⟨"MountainFarmsModel", "flowsTo", "(I)I"⟩, 25) := ⟨⟨by decide +kernel, by decide +kernel⟩, List.mem_of_getElem? (i := 872) (by decide +kernel), List.mem_of_getElem? (i := 1153) (by decide +kernel), List.mem_of_getElem? (i := 1154) (by decide +kernel)⟩
theorem lw_p33 : lw_okq (⟨"MountainFarmsModel", "hits", "(I)I"⟩, 25) := ⟨⟨by decide +kernel, by decide +kernel⟩, List.mem_of_getElem? (i := 872) (by decide +kernel), List.mem_of_getElem? (i := 1161) (by decide +kernel), List.mem_of_getElem? (i := 1162) (by decide +kernel)⟩
theorem lw_p34 : lw_okq (⟨"MountainFarmsModel", "hitsWith", "(III)I"⟩, 25) := ⟨⟨by decide +kernel, by decide +kernel⟩, List.mem_of_getElem? (i := 872) (by decide +kernel), List.mem_of_getElem? (i := 1173) (by decide +kernel), List.mem_of_getElem? (i := 1174) (by decide +kernel)⟩
theorem lw_p35 : lw_okq (⟨"MountainFarmsModel", "isTooLate", "(I)Z"⟩, 25) := ⟨⟨by decide +kernel, by decide +kernel⟩, List.mem_of_getElem? (i := 872) (by decide +kernel), List.mem_of_getElem? (i := 1196) (by decide +kernel), List.mem_of_getElem? (i := 1197) (by decide +kernel)⟩
theorem lw_p36 : lw_okq (⟨"MountainFarmsModel", "monthsGo", "(I)I"⟩, 25) := ⟨⟨by decide +kernel, by decide +kernel⟩, List.mem_of_getElem? (i := 872) (by decide +kernel), List.mem_of_getElem? (i := 1200) (by decide +kernel), List.mem_of_getElem? (i := 1201) (by decide +kernel)⟩
theorem lw_p37 : lw_okq (⟨"MountainFarmsModel", "month", "()I"⟩, 25) := ⟨⟨by decide +kernel, by decide +kernel⟩, List.mem_of_getElem? (i := 872) (by decide +kernel), List.mem_of_getElem? (i := 1204) (by decide +kernel), List.mem_of_getElem? (i := 1205) (by decide +kernel)⟩
theorem lw_p38 : lw_okq (⟨"MountainFarmsModel", "drawn", "(I)I"⟩, 25) := ⟨⟨by decide +kernel, by decide +kernel⟩, List.mem_of_getElem? (i := 872) (by decide +kernel), List.mem_of_getElem? (i := 1208) (by decide +kernel), List.mem_of_getElem? (i := 1209) (by decide +kernel)⟩
theorem lw_p39 : lw_okq (⟨"MountainFarmsModel", "comesOut", "()V"⟩, 25) := ⟨⟨by decide +kernel, by decide +kernel⟩, List.mem_of_getElem? (i := 872) (by decide +kernel), List.mem_of_getElem? (i := 1213) (by decide +kernel), List.mem_of_getElem? (i := 1214) (by decide +kernel)⟩
theorem lw_p40 : lw_okq (⟨"MountainFarmsModel", "yearIsOver", "()V"⟩, 25) := ⟨⟨by decide +kernel, by decide +kernel⟩, List.mem_of_getElem? (i := 872) (by decide +kernel), List.mem_of_getElem? (i := 1217) (by decide +kernel), List.mem_of_getElem? (i := 1218) (by decide +kernel)⟩
theorem lw_p41 : lw_okq (⟨"MountainFarmsModel", "putBack", "(I)I"⟩, 25) := ⟨⟨by decide +kernel, by decide +kernel⟩, List.mem_of_getElem? (i := 872) (by decide +kernel), List.mem_of_getElem? (i := 1240) (by decide +kernel), List.mem_of_getElem? (i := 1241) (by decide +kernel)⟩
theorem lw_p42 : lw_okq (⟨"MountainFarmsModel", "next", "()V"⟩, 25) := ⟨⟨by decide +kernel, by decide +kernel⟩, List.mem_of_getElem? (i := 872) (by decide +kernel), List.mem_of_getElem? (i := 1264) (by decide +kernel), List.mem_of_getElem? (i := 1265) (by decide +kernel)⟩
theorem lw_p43 : lw_okq (⟨"MountainFarmsModel", "byteAt", "(I)I"⟩, 25) := ⟨⟨by decide +kernel, by decide +kernel⟩, List.mem_of_getElem? (i := 872) (by decide +kernel), List.mem_of_getElem? (i := 1268) (by decide +kernel), List.mem_of_getElem? (i := 1269) (by decide +kernel)⟩
theorem lw_p44 : lw_okq (⟨"MountainFarmsModel", "readItem", "()V"⟩, 25) := ⟨⟨by decide +kernel, by decide +kernel⟩, List.mem_of_getElem? (i := 872) (by decide +kernel), List.mem_of_getElem? (i := 1272) (by decide +kernel), List.mem_of_getElem? (i := 1273) (by decide +kernel)⟩
theorem lw_p45 : lw_okq (⟨"MountainFarmsModel", "kindTold", "()I"⟩, 25) := ⟨⟨by decide +kernel, by decide +kernel⟩, List.mem_of_getElem? (i := 872) (by decide +kernel), List.mem_of_getElem? (i := 1276) (by decide +kernel), List.mem_of_getElem? (i := 1277) (by decide +kernel)⟩
theorem lw_p46 : lw_okq (⟨"MountainFarmsModel", "isWord", "(Ljava/lang/String;)Z"⟩, 25) := ⟨⟨by decide +kernel, by decide +kernel⟩, List.mem_of_getElem? (i := 872) (by decide +kernel), List.mem_of_getElem? (i := 1280) (by decide +kernel), List.mem_of_getElem? (i := 1281) (by decide +kernel)⟩
theorem lw_p47 : lw_okq (⟨"MountainFarmsModel", "readFarm", "(I)V"⟩, 25) := ⟨⟨by decide +kernel, by decide +kernel⟩, List.mem_of_getElem? (i := 872) (by decide +kernel), List.mem_of_getElem? (i := 1286) (by decide +kernel), List.mem_of_getElem? (i := 1287) (by decide +kernel)⟩
def lw_privs_3 : List (MethodName × Nat) := [(⟨"MountainFarmsModel", "flowsTo", "(I)I"⟩, 25), (⟨"MountainFarmsModel", "hits", "(I)I"⟩, 25), (⟨"MountainFarmsModel", "hitsWith", "(III)I"⟩, 25), (⟨"MountainFarmsModel", "isTooLate", "(I)Z"⟩, 25), (⟨"MountainFarmsModel", "monthsGo", "(I)I"⟩, 25), (⟨"MountainFarmsModel", "month", "()I"⟩, 25), (⟨"MountainFarmsModel", "drawn", "(I)I"⟩, 25), (⟨"MountainFarmsModel", "comesOut", "()V"⟩, 25), (⟨"MountainFarmsModel", "yearIsOver", "()V"⟩, 25), (⟨"MountainFarmsModel", "putBack", "(I)I"⟩, 25), (⟨"MountainFarmsModel", "next", "()V"⟩, 25), (⟨"MountainFarmsModel", "byteAt", "(I)I"⟩, 25), (⟨"MountainFarmsModel", "readItem", "()V"⟩, 25), (⟨"MountainFarmsModel", "kindTold", "()I"⟩, 25), (⟨"MountainFarmsModel", "isWord", "(Ljava/lang/String;)Z"⟩, 25), (⟨"MountainFarmsModel", "readFarm", "(I)V"⟩, 25)]
theorem lw_r3 : ∀ q ∈ lw_privs_3, lw_okq q := List.forall_mem_cons.mpr ⟨lw_p32, List.forall_mem_cons.mpr ⟨lw_p33, List.forall_mem_cons.mpr ⟨lw_p34, List.forall_mem_cons.mpr ⟨lw_p35, List.forall_mem_cons.mpr ⟨lw_p36, List.forall_mem_cons.mpr ⟨lw_p37, List.forall_mem_cons.mpr ⟨lw_p38, List.forall_mem_cons.mpr ⟨lw_p39, List.forall_mem_cons.mpr ⟨lw_p40, List.forall_mem_cons.mpr ⟨lw_p41, List.forall_mem_cons.mpr ⟨lw_p42, List.forall_mem_cons.mpr ⟨lw_p43, List.forall_mem_cons.mpr ⟨lw_p44, List.forall_mem_cons.mpr ⟨lw_p45, List.forall_mem_cons.mpr ⟨lw_p46, List.forall_mem_cons.mpr ⟨lw_p47, fun _ h => absurd h List.not_mem_nil⟩⟩⟩⟩⟩⟩⟩⟩⟩⟩⟩⟩⟩⟩⟩⟩
theorem lw_p48 : lw_okq (⟨"MountainFarmsModel", "must", "(Z)V"⟩, 25) := ⟨⟨by decide +kernel, by decide +kernel⟩, List.mem_of_getElem? (i := 872) (by decide +kernel), List.mem_of_getElem? (i := 1290) (by decide +kernel), List.mem_of_getElem? (i := 1291) (by decide +kernel)⟩
theorem lw_p49 : lw_okq (⟨"MountainFarmsModel", "number", "(II)I"⟩, 25) := ⟨⟨by decide +kernel, by decide +kernel⟩, List.mem_of_getElem? (i := 872) (by decide +kernel), List.mem_of_getElem? (i := 1296) (by decide +kernel), List.mem_of_getElem? (i := 1297) (by decide +kernel)⟩
theorem lw_p50 : lw_okq (⟨"MountainFarmsModel", "item", "(IIIIII)V"⟩, 25) := ⟨⟨by decide +kernel, by decide +kernel⟩, List.mem_of_getElem? (i := 872) (by decide +kernel), List.mem_of_getElem? (i := 1300) (by decide +kernel), List.mem_of_getElem? (i := 1301) (by decide +kernel)⟩
theorem lw_p51 : lw_okq (⟨"MountainFarmsModel", "readTenths", "(I)V"⟩, 25) := ⟨⟨by decide +kernel, by decide +kernel⟩, List.mem_of_getElem? (i := 872) (by decide +kernel), List.mem_of_getElem? (i := 1310) (by decide +kernel), List.mem_of_getElem? (i := 1311) (by decide +kernel)⟩
theorem lw_p52 : lw_okq (⟨"MountainFarmsModel", "readSees", "()V"⟩, 25) := ⟨⟨by decide +kernel, by decide +kernel⟩, List.mem_of_getElem? (i := 872) (by decide +kernel), List.mem_of_getElem? (i := 1315) (by decide +kernel), List.mem_of_getElem? (i := 1316) (by decide +kernel)⟩
theorem lw_p53 : lw_okq (⟨"MountainFarmsModel", "isSo", "(I)V"⟩, 25) := ⟨⟨by decide +kernel, by decide +kernel⟩, List.mem_of_getElem? (i := 872) (by decide +kernel), List.mem_of_getElem? (i := 1319) (by decide +kernel), List.mem_of_getElem? (i := 1320) (by decide +kernel)⟩
def lw_privs_4 : List (MethodName × Nat) := [(⟨"MountainFarmsModel", "must", "(Z)V"⟩, 25), (⟨"MountainFarmsModel", "number", "(II)I"⟩, 25), (⟨"MountainFarmsModel", "item", "(IIIIII)V"⟩, 25), (⟨"MountainFarmsModel", "readTenths", "(I)V"⟩, 25), (⟨"MountainFarmsModel", "readSees", "()V"⟩, 25), (⟨"MountainFarmsModel", "isSo", "(I)V"⟩, 25)]
theorem lw_r4 : ∀ q ∈ lw_privs_4, lw_okq q := List.forall_mem_cons.mpr ⟨lw_p48, List.forall_mem_cons.mpr ⟨lw_p49, List.forall_mem_cons.mpr ⟨lw_p50, List.forall_mem_cons.mpr ⟨lw_p51, List.forall_mem_cons.mpr ⟨lw_p52, List.forall_mem_cons.mpr ⟨lw_p53, fun _ h => absurd h List.not_mem_nil⟩⟩⟩⟩⟩⟩
def lw_privs : List (MethodName × Nat) := lw_privs_1 ++ (lw_privs_2 ++ (lw_privs_3 ++ (lw_privs_4)))
def lw_tbl : List Cond := k2_sels lw_privs ++ tables_1
theorem lw_privs_ok : ∀ q ∈ lw_privs, lw_okq q := by
  show ∀ q ∈ lw_privs_1 ++ (lw_privs_2 ++ (lw_privs_3 ++ (lw_privs_4))), lw_okq q
  exact List.forall_mem_append.mpr ⟨lw_r1, List.forall_mem_append.mpr ⟨lw_r2, List.forall_mem_append.mpr ⟨lw_r3, lw_r4⟩⟩⟩
def GW : List Cond := lw_tbl.filter goodWord
theorem gw_of {w : Cond} (k : Nat) (h : lw_tbl[k]? = some w) (hg : goodWord w = true) : w ∈ GW := List.mem_filter.mpr ⟨List.mem_of_getElem? h, hg⟩
def gk (l : List Cond) (k : Nat) (w : Cond) : Bool := match l[k]? with | some v => decide (v = w) | none => false
theorem gk_spec {l : List Cond} {k : Nat} {w : Cond} (h : gk l k w = true) : w ∈ l := by
  unfold gk at h
  split at h
  · rename_i v hv
    rw [← of_decide_eq_true h]
    exact List.mem_of_getElem? hv
  · cases h
theorem gm_1 {w : Cond} (h : w ∈ tables_1_1) (hg : goodWord w = true) : w ∈ GW := List.mem_filter.mpr ⟨List.mem_append_right _ (show w ∈ tables_1_1 ++ (tables_1_2 ++ (tables_1_3 ++ (tables_1_4 ++ (tables_1_5 ++ tables_1_6)))) from (List.mem_append_left _ h)), hg⟩
theorem gm_2 {w : Cond} (h : w ∈ tables_1_2) (hg : goodWord w = true) : w ∈ GW := List.mem_filter.mpr ⟨List.mem_append_right _ (show w ∈ tables_1_1 ++ (tables_1_2 ++ (tables_1_3 ++ (tables_1_4 ++ (tables_1_5 ++ tables_1_6)))) from (List.mem_append_right _ (List.mem_append_left _ h))), hg⟩
theorem gm_3 {w : Cond} (h : w ∈ tables_1_3) (hg : goodWord w = true) : w ∈ GW := List.mem_filter.mpr ⟨List.mem_append_right _ (show w ∈ tables_1_1 ++ (tables_1_2 ++ (tables_1_3 ++ (tables_1_4 ++ (tables_1_5 ++ tables_1_6)))) from (List.mem_append_right _ (List.mem_append_right _ (List.mem_append_left _ h)))), hg⟩
theorem gm_4 {w : Cond} (h : w ∈ tables_1_4) (hg : goodWord w = true) : w ∈ GW := List.mem_filter.mpr ⟨List.mem_append_right _ (show w ∈ tables_1_1 ++ (tables_1_2 ++ (tables_1_3 ++ (tables_1_4 ++ (tables_1_5 ++ tables_1_6)))) from (List.mem_append_right _ (List.mem_append_right _ (List.mem_append_right _ (List.mem_append_left _ h))))), hg⟩
theorem gm_5 {w : Cond} (h : w ∈ tables_1_5) (hg : goodWord w = true) : w ∈ GW := List.mem_filter.mpr ⟨List.mem_append_right _ (show w ∈ tables_1_1 ++ (tables_1_2 ++ (tables_1_3 ++ (tables_1_4 ++ (tables_1_5 ++ tables_1_6)))) from (List.mem_append_right _ (List.mem_append_right _ (List.mem_append_right _ (List.mem_append_right _ (List.mem_append_left _ h)))))), hg⟩
theorem gm_6 {w : Cond} (h : w ∈ tables_1_6) (hg : goodWord w = true) : w ∈ GW := List.mem_filter.mpr ⟨List.mem_append_right _ (show w ∈ tables_1_1 ++ (tables_1_2 ++ (tables_1_3 ++ (tables_1_4 ++ (tables_1_5 ++ tables_1_6)))) from (List.mem_append_right _ (List.mem_append_right _ (List.mem_append_right _ (List.mem_append_right _ (List.mem_append_right _ h)))))), hg⟩
theorem gw_good {w : Cond} (h : w ∈ GW) : (w.onTables && w.keeps) = true ∨ ∃ ty, w = .arrayClass ty := good_of_word (List.mem_filter.mp h).2
abbrev b_X_init : ByteArray := prog_1_method_1_code
def y_X_init : MethodName := ⟨"MountainFarms", "<init>", "()V"⟩
abbrev b_Ob_init : ByteArray := object_method_1_code
def y_Ob_init : MethodName := ⟨"java/lang/Object", "<init>", "()V"⟩
abbrev b_Sl_init : ByteArray := prog_7_method_1_code
def y_Sl_init : MethodName := ⟨"MountainFarms$Slope", "<init>", "()V"⟩
abbrev b_Gr_init : ByteArray := prog_3_method_1_code
def y_Gr_init : MethodName := ⟨"MountainFarms$Ground", "<init>", "()V"⟩
abbrev b_Ma_abs : ByteArray := prog_14_method_59_code
def y_Ma_abs : MethodName := ⟨"java/lang/Math", "abs", "(I)I"⟩
abbrev b_Ma_max : ByteArray := prog_14_method_65_code
def y_Ma_max : MethodName := ⟨"java/lang/Math", "max", "(II)I"⟩
abbrev b_Fa_init : ByteArray := prog_2_method_1_code
def y_Fa_init : MethodName := ⟨"MountainFarms$Farms", "<init>", "()V"⟩
abbrev b_Mo_init : ByteArray := prog_4_method_1_code
def y_Mo_init : MethodName := ⟨"MountainFarms$Mountain", "<init>", "()V"⟩
abbrev b_Pa_init : ByteArray := prog_5_method_1_code
def y_Pa_init : MethodName := ⟨"MountainFarms$Parts", "<init>", "()V"⟩
abbrev b_Tx_init : ByteArray := prog_8_method_1_code
def y_Tx_init : MethodName := ⟨"MountainFarms$SlopeText", "<init>", "()V"⟩
abbrev b_Ta_init : ByteArray := prog_9_method_1_code
def y_Ta_init : MethodName := ⟨"MountainFarms$Tape", "<init>", "()V"⟩
abbrev b_Sh_init : ByteArray := prog_6_method_1_code
def y_Sh_init : MethodName := ⟨"MountainFarms$Sheet", "<init>", "()V"⟩
abbrev b_X_set : ByteArray := prog_1_method_2_code
def y_X_set : MethodName := ⟨"MountainFarms", "set", "(III)I"⟩
abbrev b_X_isCell : ByteArray := prog_1_method_53_code
def y_X_isCell : MethodName := ⟨"MountainFarms", "isCell", "(I)Z"⟩
abbrev b_X_isWithin : ByteArray := prog_1_method_52_code
def y_X_isWithin : MethodName := ⟨"MountainFarms", "isWithin", "(III)Z"⟩
abbrev b_X_finding : ByteArray := prog_1_method_50_code
def y_X_finding : MethodName := ⟨"MountainFarms", "finding", "(I)I"⟩
abbrev b_X_cellOf : ByteArray := prog_1_method_3_code
def y_X_cellOf : MethodName := ⟨"MountainFarms", "cellOf", "(II)I"⟩
abbrev b_Fa_farmOn : ByteArray := prog_2_method_6_code
def y_Fa_farmOn : MethodName := ⟨"MountainFarms$Farms", "farmOn", "(I)I"⟩
abbrev b_X_vent : ByteArray := prog_1_method_4_code
def y_X_vent : MethodName := ⟨"MountainFarms", "vent", "(I)I"⟩
abbrev b_X_wall : ByteArray := prog_1_method_5_code
def y_X_wall : MethodName := ⟨"MountainFarms", "wall", "(IIZ)I"⟩
abbrev b_X_wayTo : ByteArray := prog_1_method_61_code
def y_X_wayTo : MethodName := ⟨"MountainFarms", "wayTo", "(II)I"⟩
abbrev b_X_beside : ByteArray := prog_1_method_60_code
def y_X_beside : MethodName := ⟨"MountainFarms", "beside", "(II)I"⟩
abbrev b_Gr_isWalled : ByteArray := prog_3_method_4_code
def y_Gr_isWalled : MethodName := ⟨"MountainFarms$Ground", "isWalled", "(II)Z"⟩
abbrev b_Gr_putWall : ByteArray := prog_3_method_5_code
def y_Gr_putWall : MethodName := ⟨"MountainFarms$Ground", "putWall", "(IIZ)V"⟩
abbrev b_X_farm : ByteArray := prog_1_method_6_code
def y_X_farm : MethodName := ⟨"MountainFarms", "farm", "(III)I"⟩
abbrev b_X_isKind : ByteArray := prog_1_method_54_code
def y_X_isKind : MethodName := ⟨"MountainFarms", "isKind", "(I)Z"⟩
abbrev b_X_isOwner : ByteArray := prog_1_method_55_code
def y_X_isOwner : MethodName := ⟨"MountainFarms", "isOwner", "(I)Z"⟩
abbrev b_Fa_isFull : ByteArray := prog_2_method_5_code
def y_Fa_isFull : MethodName := ⟨"MountainFarms$Farms", "isFull", "()Z"⟩
abbrev b_Fa_add : ByteArray := prog_2_method_7_code
def y_Fa_add : MethodName := ⟨"MountainFarms$Farms", "add", "(III)I"⟩
abbrev b_X_of : ByteArray := prog_1_method_7_code
def y_X_of : MethodName := ⟨"MountainFarms", "of", "(II)I"⟩
abbrev b_Fa_has : ByteArray := prog_2_method_3_code
def y_Fa_has : MethodName := ⟨"MountainFarms$Farms", "has", "(I)Z"⟩
abbrev b_Fa_isBurnt : ByteArray := prog_2_method_4_code
def y_Fa_isBurnt : MethodName := ⟨"MountainFarms$Farms", "isBurnt", "(I)Z"⟩
abbrev b_Fa_bearsOn : ByteArray := prog_2_method_9_code
def y_Fa_bearsOn : MethodName := ⟨"MountainFarms$Farms", "bearsOn", "(ILMountainFarms$Ground;)I"⟩
abbrev b_Gr_ageOf : ByteArray := prog_3_method_3_code
def y_Gr_ageOf : MethodName := ⟨"MountainFarms$Ground", "ageOf", "(I)I"⟩
abbrev b_X_bearing : ByteArray := prog_1_method_63_code
def y_X_bearing : MethodName := ⟨"MountainFarms", "bearing", "(III)I"⟩
abbrev b_Ma_min : ByteArray := prog_14_method_69_code
def y_Ma_min : MethodName := ⟨"java/lang/Math", "min", "(II)I"⟩
abbrev b_X_sow : ByteArray := prog_1_method_8_code
def y_X_sow : MethodName := ⟨"MountainFarms", "sow", "(II)I"⟩
abbrev b_X_as : ByteArray := prog_1_method_9_code
def y_X_as : MethodName := ⟨"MountainFarms", "as", "(II)I"⟩
abbrev b_X_isOfKind : ByteArray := prog_1_method_62_code
def y_X_isOfKind : MethodName := ⟨"MountainFarms", "isOfKind", "(II)Z"⟩
abbrev b_X_build : ByteArray := prog_1_method_10_code
def y_X_build : MethodName := ⟨"MountainFarms", "build", "(I)I"⟩
abbrev b_X_coins : ByteArray := prog_1_method_11_code
def y_X_coins : MethodName := ⟨"MountainFarms", "coins", "(I)I"⟩
abbrev b_Fa_coinsOf : ByteArray := prog_2_method_11_code
def y_Fa_coinsOf : MethodName := ⟨"MountainFarms$Farms", "coinsOf", "(I)I"⟩
abbrev b_X_best : ByteArray := prog_1_method_12_code
def y_X_best : MethodName := ⟨"MountainFarms", "best", "(I)I"⟩
abbrev b_X_harvest : ByteArray := prog_1_method_13_code
def y_X_harvest : MethodName := ⟨"MountainFarms", "harvest", "(III)I"⟩
abbrev b_X_tenths : ByteArray := prog_1_method_14_code
def y_X_tenths : MethodName := ⟨"MountainFarms", "tenths", "(IIIII)I"⟩
abbrev b_X_isState : ByteArray := prog_1_method_56_code
def y_X_isState : MethodName := ⟨"MountainFarms", "isState", "(I)Z"⟩
abbrev b_Mo_tenthAt : ByteArray := prog_4_method_3_code
def y_Mo_tenthAt : MethodName := ⟨"MountainFarms$Mountain", "tenthAt", "(III)I"⟩
abbrev b_Mo_putTenth : ByteArray := prog_4_method_4_code
def y_Mo_putTenth : MethodName := ⟨"MountainFarms$Mountain", "putTenth", "(IIII)V"⟩
abbrev b_X_tenth : ByteArray := prog_1_method_15_code
def y_X_tenth : MethodName := ⟨"MountainFarms", "tenth", "(III)I"⟩
abbrev b_X_sees : ByteArray := prog_1_method_16_code
def y_X_sees : MethodName := ⟨"MountainFarms", "sees", "(I)I"⟩
abbrev b_X_isSign : ByteArray := prog_1_method_57_code
def y_X_isSign : MethodName := ⟨"MountainFarms", "isSign", "(I)Z"⟩
abbrev b_Mo_isDiaryFull : ByteArray := prog_4_method_5_code
def y_Mo_isDiaryFull : MethodName := ⟨"MountainFarms$Mountain", "isDiaryFull", "()Z"⟩
abbrev b_Mo_addSign : ByteArray := prog_4_method_6_code
def y_Mo_addSign : MethodName := ⟨"MountainFarms$Mountain", "addSign", "(I)V"⟩
abbrev b_X_burn : ByteArray := prog_1_method_17_code
def y_X_burn : MethodName := ⟨"MountainFarms", "burn", "()I"⟩
abbrev b_X_weight : ByteArray := prog_1_method_18_code
def y_X_weight : MethodName := ⟨"MountainFarms", "weight", "(I)J"⟩
abbrev b_Pa_weigh : ByteArray := prog_5_method_2_code
def y_Pa_weigh : MethodName := ⟨"MountainFarms$Parts", "weigh", "(LMountainFarms$Mountain;)V"⟩
abbrev b_Pa_see : ByteArray := prog_5_method_3_code
def y_Pa_see : MethodName := ⟨"MountainFarms$Parts", "see", "(LMountainFarms$Mountain;I)V"⟩
abbrev b_Pa_all : ByteArray := prog_5_method_4_code
def y_Pa_all : MethodName := ⟨"MountainFarms$Parts", "all", "()J"⟩
abbrev b_X_likeliest : ByteArray := prog_1_method_19_code
def y_X_likeliest : MethodName := ⟨"MountainFarms", "likeliest", "()I"⟩
abbrev b_X_flee : ByteArray := prog_1_method_20_code
def y_X_flee : MethodName := ⟨"MountainFarms", "flee", "(I)I"⟩
abbrev b_X_dread : ByteArray := prog_1_method_21_code
def y_X_dread : MethodName := ⟨"MountainFarms", "dread", "()I"⟩
abbrev b_X_flow : ByteArray := prog_1_method_22_code
def y_X_flow : MethodName := ⟨"MountainFarms", "flow", "(II)J"⟩
abbrev b_X_isVolume : ByteArray := prog_1_method_58_code
def y_X_isVolume : MethodName := ⟨"MountainFarms", "isVolume", "(I)Z"⟩
abbrev b_Gr_become : ByteArray := prog_3_method_2_code
def y_Gr_become : MethodName := ⟨"MountainFarms$Ground", "become", "(LMountainFarms$Ground;)V"⟩
abbrev b_Gr_lavaFrom : ByteArray := prog_3_method_7_code
def y_Gr_lavaFrom : MethodName := ⟨"MountainFarms$Ground", "lavaFrom", "(II)J"⟩
abbrev b_Gr_lavaGoesOn : ByteArray := prog_3_method_11_code
def y_Gr_lavaGoesOn : MethodName := ⟨"MountainFarms$Ground", "lavaGoesOn", "(I)I"⟩
abbrev b_X_hit : ByteArray := prog_1_method_23_code
def y_X_hit : MethodName := ⟨"MountainFarms", "hit", "(I)I"⟩
abbrev b_X_hitWith : ByteArray := prog_1_method_51_code
def y_X_hitWith : MethodName := ⟨"MountainFarms", "hitWith", "(III)I"⟩
abbrev b_Fa_standingOn : ByteArray := prog_2_method_13_code
def y_Fa_standingOn : MethodName := ⟨"MountainFarms$Farms", "standingOn", "(J)I"⟩
abbrev b_X_least : ByteArray := prog_1_method_24_code
def y_X_least : MethodName := ⟨"MountainFarms", "least", "(I)I"⟩
abbrev b_Gr_leastVolumeTo : ByteArray := prog_3_method_8_code
def y_Gr_leastVolumeTo : MethodName := ⟨"MountainFarms$Ground", "leastVolumeTo", "(I)I"⟩
abbrev b_X_turnsOn : ByteArray := prog_1_method_25_code
def y_X_turnsOn : MethodName := ⟨"MountainFarms", "turnsOn", "(III)I"⟩
abbrev b_X_save : ByteArray := prog_1_method_26_code
def y_X_save : MethodName := ⟨"MountainFarms", "save", "(I)I"⟩
abbrev b_In_bitCount : ByteArray := prog_12_method_49_code
def y_In_bitCount : MethodName := ⟨"java/lang/Integer", "bitCount", "(I)I"⟩
abbrev b_X_volume : ByteArray := prog_1_method_27_code
def y_X_volume : MethodName := ⟨"MountainFarms", "volume", "(I)I"⟩
abbrev b_X_pigs : ByteArray := prog_1_method_28_code
def y_X_pigs : MethodName := ⟨"MountainFarms", "pigs", "(Z)I"⟩
abbrev b_X_months : ByteArray := prog_1_method_29_code
def y_X_months : MethodName := ⟨"MountainFarms", "months", "(I)I"⟩
abbrev b_Sl_goMonths : ByteArray := prog_7_method_3_code
def y_Sl_goMonths : MethodName := ⟨"MountainFarms$Slope", "goMonths", "(I)I"⟩
abbrev b_Sl_goMonth : ByteArray := prog_7_method_4_code
def y_Sl_goMonth : MethodName := ⟨"MountainFarms$Slope", "goMonth", "()Z"⟩
abbrev b_Mo_goOn : ByteArray := prog_4_method_7_code
def y_Mo_goOn : MethodName := ⟨"MountainFarms$Mountain", "goOn", "()Z"⟩
abbrev b_Sl_eruptNow : ByteArray := prog_7_method_5_code
def y_Sl_eruptNow : MethodName := ⟨"MountainFarms$Slope", "eruptNow", "()V"⟩
abbrev b_Gr_coolDown : ByteArray := prog_3_method_9_code
def y_Gr_coolDown : MethodName := ⟨"MountainFarms$Ground", "coolDown", "(J)V"⟩
abbrev b_Fa_earnOn : ByteArray := prog_2_method_10_code
def y_Fa_earnOn : MethodName := ⟨"MountainFarms$Farms", "earnOn", "(LMountainFarms$Ground;)V"⟩
abbrev b_Gr_growOlder : ByteArray := prog_3_method_10_code
def y_Gr_growOlder : MethodName := ⟨"MountainFarms$Ground", "growOlder", "()V"⟩
abbrev b_X_seed : ByteArray := prog_1_method_30_code
def y_X_seed : MethodName := ⟨"MountainFarms", "seed", "(I)I"⟩
abbrev b_X_now : ByteArray := prog_1_method_31_code
def y_X_now : MethodName := ⟨"MountainFarms", "now", "(I)I"⟩
abbrev b_X_doPigs : ByteArray := prog_1_method_32_code
def y_X_doPigs : MethodName := ⟨"MountainFarms", "doPigs", "()I"⟩
abbrev b_Lo_compare : ByteArray := prog_13_method_42_code
def y_Lo_compare : MethodName := ⟨"java/lang/Long", "compare", "(JJ)I"⟩
abbrev b_X_out : ByteArray := prog_1_method_33_code
def y_X_out : MethodName := ⟨"MountainFarms", "out", "()I"⟩
abbrev b_Sl_become : ByteArray := prog_7_method_2_code
def y_Sl_become : MethodName := ⟨"MountainFarms$Slope", "become", "(LMountainFarms$Slope;)V"⟩
abbrev b_Fa_become : ByteArray := prog_2_method_2_code
def y_Fa_become : MethodName := ⟨"MountainFarms$Farms", "become", "(LMountainFarms$Farms;)V"⟩
abbrev b_Mo_become : ByteArray := prog_4_method_2_code
def y_Mo_become : MethodName := ⟨"MountainFarms$Mountain", "become", "(LMountainFarms$Mountain;)V"⟩
abbrev b_X_on : ByteArray := prog_1_method_34_code
def y_X_on : MethodName := ⟨"MountainFarms", "on", "(II)I"⟩
abbrev b_Fa_allCoins : ByteArray := prog_2_method_12_code
def y_Fa_allCoins : MethodName := ⟨"MountainFarms$Farms", "allCoins", "()I"⟩
abbrev b_X_crop : ByteArray := prog_1_method_35_code
def y_X_crop : MethodName := ⟨"MountainFarms", "crop", "(I)I"⟩
abbrev b_Fa_sowAll : ByteArray := prog_2_method_8_code
def y_Fa_sowAll : MethodName := ⟨"MountainFarms$Farms", "sowAll", "(I)V"⟩
abbrev b_X_feed : ByteArray := prog_1_method_36_code
def y_X_feed : MethodName := ⟨"MountainFarms", "feed", "(II)I"⟩
abbrev b_Ta_append : ByteArray := prog_9_method_2_code
def y_Ta_append : MethodName := ⟨"MountainFarms$Tape", "append", "(I)V"⟩
abbrev b_X_wipe : ByteArray := prog_1_method_37_code
def y_X_wipe : MethodName := ⟨"MountainFarms", "wipe", "()I"⟩
abbrev b_X_slope : ByteArray := prog_1_method_38_code
def y_X_slope : MethodName := ⟨"MountainFarms", "slope", "()I"⟩
abbrev b_Tx_readAll : ByteArray := prog_8_method_2_code
def y_Tx_readAll : MethodName := ⟨"MountainFarms$SlopeText", "readAll", "(LMountainFarms$Slope;)I"⟩
abbrev b_Ta_goToFirst : ByteArray := prog_9_method_3_code
def y_Ta_goToFirst : MethodName := ⟨"MountainFarms$Tape", "goToFirst", "()V"⟩
abbrev b_Ta_goToNext : ByteArray := prog_9_method_4_code
def y_Ta_goToNext : MethodName := ⟨"MountainFarms$Tape", "goToNext", "()V"⟩
abbrev b_Ta_isLetter : ByteArray := prog_9_method_12_code
def y_Ta_isLetter : MethodName := ⟨"MountainFarms$Tape", "isLetter", "(I)Z"⟩
abbrev b_Ta_endWord : ByteArray := prog_9_method_10_code
def y_Ta_endWord : MethodName := ⟨"MountainFarms$Tape", "endWord", "()V"⟩
abbrev b_Ta_isDigit : ByteArray := prog_9_method_13_code
def y_Ta_isDigit : MethodName := ⟨"MountainFarms$Tape", "isDigit", "(I)Z"⟩
abbrev b_Ta_endNumber : ByteArray := prog_9_method_11_code
def y_Ta_endNumber : MethodName := ⟨"MountainFarms$Tape", "endNumber", "()V"⟩
abbrev b_Tx_readItem : ByteArray := prog_8_method_3_code
def y_Tx_readItem : MethodName := ⟨"MountainFarms$SlopeText", "readItem", "(LMountainFarms$Slope;)Z"⟩
abbrev b_Tx_kindHere : ByteArray := prog_8_method_4_code
def y_Tx_kindHere : MethodName := ⟨"MountainFarms$SlopeText", "kindHere", "()I"⟩
abbrev b_Tx_nameOf : ByteArray := prog_8_method_5_code
def y_Tx_nameOf : MethodName := ⟨"MountainFarms$SlopeText", "nameOf", "(I)Ljava/lang/String;"⟩
abbrev b_Ta_isAt : ByteArray := prog_9_method_9_code
def y_Ta_isAt : MethodName := ⟨"MountainFarms$Tape", "isAt", "(Ljava/lang/String;)Z"⟩
abbrev b_Sg_length : ByteArray := prog_15_method_54_code
def y_Sg_length : MethodName := ⟨"java/lang/String", "length", "()I"⟩
abbrev b_Sg_coder : ByteArray := prog_15_method_152_code
def y_Sg_coder : MethodName := ⟨"java/lang/String", "coder", "()B"⟩
abbrev b_Sg_charAt : ByteArray := prog_15_method_56_code
def y_Sg_charAt : MethodName := ⟨"java/lang/String", "charAt", "(I)C"⟩
abbrev b_Sg_isLatin1 : ByteArray := prog_15_method_154_code
def y_Sg_isLatin1 : MethodName := ⟨"java/lang/String", "isLatin1", "()Z"⟩
abbrev b_S1_charAt : ByteArray := prog_16_method_2_code
def y_S1_charAt : MethodName := ⟨"java/lang/StringLatin1", "charAt", "([BI)C"⟩
abbrev b_Sg_checkIndex : ByteArray := prog_15_method_155_code
def y_Sg_checkIndex : MethodName := ⟨"java/lang/String", "checkIndex", "(II)V"⟩
abbrev b_Pr_checkIndex : ByteArray := prog_19_method_11_code
def y_Pr_checkIndex : MethodName := ⟨"jdk/internal/util/Preconditions", "checkIndex", "(IILjava/util/function/BiFunction;)I"⟩
abbrev b_S6_charAt : ByteArray := prog_17_method_83_code
def y_S6_charAt : MethodName := ⟨"java/lang/StringUTF16", "charAt", "([BI)C"⟩
abbrev b_S6_checkIndex : ByteArray := prog_17_method_91_code
def y_S6_checkIndex : MethodName := ⟨"java/lang/StringUTF16", "checkIndex", "(I[B)V"⟩
abbrev b_S6_length : ByteArray := prog_17_method_6_code
def y_S6_length : MethodName := ⟨"java/lang/StringUTF16", "length", "([B)I"⟩
abbrev b_S6_getChar : ByteArray := prog_17_method_5_code
def y_S6_getChar : MethodName := ⟨"java/lang/StringUTF16", "getChar", "([BI)C"⟩
abbrev b_Tx_readFarm : ByteArray := prog_8_method_6_code
def y_Tx_readFarm : MethodName := ⟨"MountainFarms$SlopeText", "readFarm", "(ILMountainFarms$Farms;)Z"⟩
abbrev b_Ta_numberUpTo : ByteArray := prog_9_method_8_code
def y_Ta_numberUpTo : MethodName := ⟨"MountainFarms$Tape", "numberUpTo", "(I)I"⟩
abbrev b_Tx_readWall : ByteArray := prog_8_method_7_code
def y_Tx_readWall : MethodName := ⟨"MountainFarms$SlopeText", "readWall", "(LMountainFarms$Ground;)Z"⟩
abbrev b_Tx_readLevel : ByteArray := prog_8_method_8_code
def y_Tx_readLevel : MethodName := ⟨"MountainFarms$SlopeText", "readLevel", "([I)Z"⟩
abbrev b_Tx_readVent : ByteArray := prog_8_method_9_code
def y_Tx_readVent : MethodName := ⟨"MountainFarms$SlopeText", "readVent", "(LMountainFarms$Ground;)Z"⟩
abbrev b_Tx_readTenths : ByteArray := prog_8_method_10_code
def y_Tx_readTenths : MethodName := ⟨"MountainFarms$SlopeText", "readTenths", "(ILMountainFarms$Mountain;)Z"⟩
abbrev b_Tx_readDiary : ByteArray := prog_8_method_11_code
def y_Tx_readDiary : MethodName := ⟨"MountainFarms$SlopeText", "readDiary", "(LMountainFarms$Mountain;)Z"⟩
abbrev b_Ta_isAtNumber : ByteArray := prog_9_method_7_code
def y_Ta_isAtNumber : MethodName := ⟨"MountainFarms$Tape", "isAtNumber", "()Z"⟩
abbrev b_Ta_isAtEnd : ByteArray := prog_9_method_5_code
def y_Ta_isAtEnd : MethodName := ⟨"MountainFarms$Tape", "isAtEnd", "()Z"⟩
abbrev b_Ta_isAtSemicolon : ByteArray := prog_9_method_6_code
def y_Ta_isAtSemicolon : MethodName := ⟨"MountainFarms$Tape", "isAtSemicolon", "()Z"⟩
abbrev b_X_sheet : ByteArray := prog_1_method_39_code
def y_X_sheet : MethodName := ⟨"MountainFarms", "sheet", "(III)I"⟩
abbrev b_X_isSheet : ByteArray := prog_1_method_59_code
def y_X_isSheet : MethodName := ⟨"MountainFarms", "isSheet", "(I)Z"⟩
abbrev b_Sh_lay : ByteArray := prog_6_method_2_code
def y_Sh_lay : MethodName := ⟨"MountainFarms$Sheet", "lay", "(II)V"⟩
abbrev b_X_write : ByteArray := prog_1_method_40_code
def y_X_write : MethodName := ⟨"MountainFarms", "write", "(IIJ)J"⟩
abbrev b_Sh_isMissing : ByteArray := prog_6_method_3_code
def y_Sh_isMissing : MethodName := ⟨"MountainFarms$Sheet", "isMissing", "()Z"⟩
abbrev b_Sh_put : ByteArray := prog_6_method_5_code
def y_Sh_put : MethodName := ⟨"MountainFarms$Sheet", "put", "(IJ)V"⟩
abbrev b_X_copy : ByteArray := prog_1_method_41_code
def y_X_copy : MethodName := ⟨"MountainFarms", "copy", "(IIIII)I"⟩
abbrev b_Sh_hasRun : ByteArray := prog_6_method_4_code
def y_Sh_hasRun : MethodName := ⟨"MountainFarms$Sheet", "hasRun", "(II)Z"⟩
abbrev b_X_lays : ByteArray := prog_1_method_42_code
def y_X_lays : MethodName := ⟨"MountainFarms", "lays", "(I)I"⟩
abbrev b_X_book : ByteArray := prog_1_method_43_code
def y_X_book : MethodName := ⟨"MountainFarms", "book", "(I)I"⟩
abbrev b_X_read : ByteArray := prog_1_method_44_code
def y_X_read : MethodName := ⟨"MountainFarms", "read", "(I)I"⟩
abbrev b_X_image : ByteArray := prog_1_method_45_code
def y_X_image : MethodName := ⟨"MountainFarms", "image", "()I"⟩
abbrev b_X_undo : ByteArray := prog_1_method_46_code
def y_X_undo : MethodName := ⟨"MountainFarms", "undo", "()I"⟩
abbrev b_X_tear : ByteArray := prog_1_method_47_code
def y_X_tear : MethodName := ⟨"MountainFarms", "tear", "()I"⟩
abbrev b_X_count : ByteArray := prog_1_method_48_code
def y_X_count : MethodName := ⟨"MountainFarms", "count", "(I)I"⟩
abbrev b_Gr_countWalls : ByteArray := prog_3_method_6_code
def y_Gr_countWalls : MethodName := ⟨"MountainFarms$Ground", "countWalls", "()I"⟩
abbrev b_X_status : ByteArray := prog_1_method_49_code
def y_X_status : MethodName := ⟨"MountainFarms", "status", "(I)I"⟩
abbrev b_M_init : ByteArray := prog_11_method_1_code
def y_M_init : MethodName := ⟨"MountainFarmsModel", "<init>", "()V"⟩
abbrev b_M_set : ByteArray := prog_11_method_8_code
def y_M_set : MethodName := ⟨"MountainFarmsModel", "set", "(III)I"⟩
abbrev b_M_isCell : ByteArray := prog_11_method_7_code
def y_M_isCell : MethodName := ⟨"MountainFarmsModel", "isCell", "(I)Z"⟩
abbrev b_M_within : ByteArray := prog_11_method_3_code
def y_M_within : MethodName := ⟨"MountainFarmsModel", "within", "(III)Z"⟩
abbrev b_M_finding : ByteArray := prog_11_method_2_code
def y_M_finding : MethodName := ⟨"MountainFarmsModel", "finding", "(I)I"⟩
abbrev b_M_become : ByteArray := prog_11_method_4_code
def y_M_become : MethodName := ⟨"MountainFarmsModel", "become", "(II)I"⟩
abbrev b_M_cellOf : ByteArray := prog_11_method_14_code
def y_M_cellOf : MethodName := ⟨"MountainFarmsModel", "cellOf", "(II)I"⟩
abbrev b_M_farmAt : ByteArray := prog_11_method_13_code
def y_M_farmAt : MethodName := ⟨"MountainFarmsModel", "farmAt", "(I)I"⟩
abbrev b_M_farmIs : ByteArray := prog_11_method_18_code
def y_M_farmIs : MethodName := ⟨"MountainFarmsModel", "farmIs", "(II)I"⟩
abbrev b_M_vent : ByteArray := prog_11_method_15_code
def y_M_vent : MethodName := ⟨"MountainFarmsModel", "vent", "(I)I"⟩
abbrev b_M_wall : ByteArray := prog_11_method_16_code
def y_M_wall : MethodName := ⟨"MountainFarmsModel", "wall", "(IIZ)I"⟩
abbrev b_M_wayTo : ByteArray := prog_11_method_10_code
def y_M_wayTo : MethodName := ⟨"MountainFarmsModel", "wayTo", "(II)I"⟩
abbrev b_M_cellIn : ByteArray := prog_11_method_9_code
def y_M_cellIn : MethodName := ⟨"MountainFarmsModel", "cellIn", "(II)I"⟩
abbrev b_M_hasWall : ByteArray := prog_11_method_11_code
def y_M_hasWall : MethodName := ⟨"MountainFarmsModel", "hasWall", "(II)Z"⟩
abbrev b_M_putWall : ByteArray := prog_11_method_12_code
def y_M_putWall : MethodName := ⟨"MountainFarmsModel", "putWall", "(IIZ)V"⟩
abbrev b_M_farm : ByteArray := prog_11_method_21_code
def y_M_farm : MethodName := ⟨"MountainFarmsModel", "farm", "(III)I"⟩
abbrev b_M_isKind : ByteArray := prog_11_method_19_code
def y_M_isKind : MethodName := ⟨"MountainFarmsModel", "isKind", "(I)Z"⟩
abbrev b_M_built : ByteArray := prog_11_method_20_code
def y_M_built : MethodName := ⟨"MountainFarmsModel", "built", "(III)I"⟩
abbrev b_M_of : ByteArray := prog_11_method_24_code
def y_M_of : MethodName := ⟨"MountainFarmsModel", "of", "(II)I"⟩
abbrev b_M_isFarm : ByteArray := prog_11_method_17_code
def y_M_isFarm : MethodName := ⟨"MountainFarmsModel", "isFarm", "(I)Z"⟩
abbrev b_M_bears : ByteArray := prog_11_method_23_code
def y_M_bears : MethodName := ⟨"MountainFarmsModel", "bears", "(I)I"⟩
abbrev b_M_bearsAt : ByteArray := prog_11_method_22_code
def y_M_bearsAt : MethodName := ⟨"MountainFarmsModel", "bearsAt", "(III)I"⟩
abbrev b_M_sow : ByteArray := prog_11_method_25_code
def y_M_sow : MethodName := ⟨"MountainFarmsModel", "sow", "(II)I"⟩
abbrev b_M_as : ByteArray := prog_11_method_27_code
def y_M_as : MethodName := ⟨"MountainFarmsModel", "as", "(II)I"⟩
abbrev b_M_above : ByteArray := prog_11_method_26_code
def y_M_above : MethodName := ⟨"MountainFarmsModel", "above", "(I)I"⟩
abbrev b_M_build : ByteArray := prog_11_method_28_code
def y_M_build : MethodName := ⟨"MountainFarmsModel", "build", "(I)I"⟩
abbrev b_M_coins : ByteArray := prog_11_method_30_code
def y_M_coins : MethodName := ⟨"MountainFarmsModel", "coins", "(I)I"⟩
abbrev b_M_coinsOf : ByteArray := prog_11_method_29_code
def y_M_coinsOf : MethodName := ⟨"MountainFarmsModel", "coinsOf", "(I)I"⟩
abbrev b_M_best : ByteArray := prog_11_method_31_code
def y_M_best : MethodName := ⟨"MountainFarmsModel", "best", "(I)I"⟩
abbrev b_M_harvest : ByteArray := prog_11_method_32_code
def y_M_harvest : MethodName := ⟨"MountainFarmsModel", "harvest", "(III)I"⟩
abbrev b_M_tenths : ByteArray := prog_11_method_35_code
def y_M_tenths : MethodName := ⟨"MountainFarmsModel", "tenths", "(IIIII)I"⟩
abbrev b_M_isState : ByteArray := prog_11_method_33_code
def y_M_isState : MethodName := ⟨"MountainFarmsModel", "isState", "(I)Z"⟩
abbrev b_M_putTenths : ByteArray := prog_11_method_34_code
def y_M_putTenths : MethodName := ⟨"MountainFarmsModel", "putTenths", "(IIII)V"⟩
abbrev b_M_tenth : ByteArray := prog_11_method_36_code
def y_M_tenth : MethodName := ⟨"MountainFarmsModel", "tenth", "(III)I"⟩
abbrev b_M_sees : ByteArray := prog_11_method_37_code
def y_M_sees : MethodName := ⟨"MountainFarmsModel", "sees", "(I)I"⟩
abbrev b_M_burn : ByteArray := prog_11_method_38_code
def y_M_burn : MethodName := ⟨"MountainFarmsModel", "burn", "()I"⟩
abbrev b_M_weight : ByteArray := prog_11_method_42_code
def y_M_weight : MethodName := ⟨"MountainFarmsModel", "weight", "(I)J"⟩
abbrev b_M_weigh : ByteArray := prog_11_method_40_code
def y_M_weigh : MethodName := ⟨"MountainFarmsModel", "weigh", "()J"⟩
abbrev b_M_seen : ByteArray := prog_11_method_39_code
def y_M_seen : MethodName := ⟨"MountainFarmsModel", "seen", "(I)V"⟩
abbrev b_M_all : ByteArray := prog_11_method_41_code
def y_M_all : MethodName := ⟨"MountainFarmsModel", "all", "()J"⟩
abbrev b_M_likeliest : ByteArray := prog_11_method_43_code
def y_M_likeliest : MethodName := ⟨"MountainFarmsModel", "likeliest", "()I"⟩
abbrev b_M_flee : ByteArray := prog_11_method_44_code
def y_M_flee : MethodName := ⟨"MountainFarmsModel", "flee", "(I)I"⟩
abbrev b_M_dread : ByteArray := prog_11_method_45_code
def y_M_dread : MethodName := ⟨"MountainFarmsModel", "dread", "()I"⟩
abbrev b_M_flow : ByteArray := prog_11_method_50_code
def y_M_flow : MethodName := ⟨"MountainFarmsModel", "flow", "(II)J"⟩
abbrev b_M_isVolume : ByteArray := prog_11_method_48_code
def y_M_isVolume : MethodName := ⟨"MountainFarmsModel", "isVolume", "(I)Z"⟩
abbrev b_M_asked : ByteArray := prog_11_method_49_code
def y_M_asked : MethodName := ⟨"MountainFarmsModel", "asked", "(II)J"⟩
abbrev b_M_copyRow : ByteArray := prog_11_method_5_code
def y_M_copyRow : MethodName := ⟨"MountainFarmsModel", "copyRow", "([I[I)V"⟩
abbrev b_M_lava : ByteArray := prog_11_method_47_code
def y_M_lava : MethodName := ⟨"MountainFarmsModel", "lava", "(II)J"⟩
abbrev b_M_flowsTo : ByteArray := prog_11_method_46_code
def y_M_flowsTo : MethodName := ⟨"MountainFarmsModel", "flowsTo", "(I)I"⟩
abbrev b_M_hit : ByteArray := prog_11_method_52_code
def y_M_hit : MethodName := ⟨"MountainFarmsModel", "hit", "(I)I"⟩
abbrev b_M_hits : ByteArray := prog_11_method_51_code
def y_M_hits : MethodName := ⟨"MountainFarmsModel", "hits", "(I)I"⟩
abbrev b_M_least : ByteArray := prog_11_method_53_code
def y_M_least : MethodName := ⟨"MountainFarmsModel", "least", "(I)I"⟩
abbrev b_M_turnsOn : ByteArray := prog_11_method_55_code
def y_M_turnsOn : MethodName := ⟨"MountainFarmsModel", "turnsOn", "(III)I"⟩
abbrev b_M_hitsWith : ByteArray := prog_11_method_54_code
def y_M_hitsWith : MethodName := ⟨"MountainFarmsModel", "hitsWith", "(III)I"⟩
abbrev b_M_save : ByteArray := prog_11_method_57_code
def y_M_save : MethodName := ⟨"MountainFarmsModel", "save", "(I)I"⟩
abbrev b_M_bits : ByteArray := prog_11_method_56_code
def y_M_bits : MethodName := ⟨"MountainFarmsModel", "bits", "(I)I"⟩
abbrev b_M_volume : ByteArray := prog_11_method_58_code
def y_M_volume : MethodName := ⟨"MountainFarmsModel", "volume", "(I)I"⟩
abbrev b_M_pigs : ByteArray := prog_11_method_59_code
def y_M_pigs : MethodName := ⟨"MountainFarmsModel", "pigs", "(Z)I"⟩
abbrev b_M_months : ByteArray := prog_11_method_66_code
def y_M_months : MethodName := ⟨"MountainFarmsModel", "months", "(I)I"⟩
abbrev b_M_isTooLate : ByteArray := prog_11_method_65_code
def y_M_isTooLate : MethodName := ⟨"MountainFarmsModel", "isTooLate", "(I)Z"⟩
abbrev b_M_monthsGo : ByteArray := prog_11_method_64_code
def y_M_monthsGo : MethodName := ⟨"MountainFarmsModel", "monthsGo", "(I)I"⟩
abbrev b_M_month : ByteArray := prog_11_method_63_code
def y_M_month : MethodName := ⟨"MountainFarmsModel", "month", "()I"⟩
abbrev b_M_drawn : ByteArray := prog_11_method_60_code
def y_M_drawn : MethodName := ⟨"MountainFarmsModel", "drawn", "(I)I"⟩
abbrev b_M_comesOut : ByteArray := prog_11_method_61_code
def y_M_comesOut : MethodName := ⟨"MountainFarmsModel", "comesOut", "()V"⟩
abbrev b_M_yearIsOver : ByteArray := prog_11_method_62_code
def y_M_yearIsOver : MethodName := ⟨"MountainFarmsModel", "yearIsOver", "()V"⟩
abbrev b_M_seed : ByteArray := prog_11_method_67_code
def y_M_seed : MethodName := ⟨"MountainFarmsModel", "seed", "(I)I"⟩
abbrev b_M_now : ByteArray := prog_11_method_68_code
def y_M_now : MethodName := ⟨"MountainFarmsModel", "now", "(I)I"⟩
abbrev b_M_doPigs : ByteArray := prog_11_method_69_code
def y_M_doPigs : MethodName := ⟨"MountainFarmsModel", "doPigs", "()I"⟩
abbrev b_In_compare : ByteArray := prog_12_method_40_code
def y_In_compare : MethodName := ⟨"java/lang/Integer", "compare", "(II)I"⟩
abbrev b_M_out : ByteArray := prog_11_method_70_code
def y_M_out : MethodName := ⟨"MountainFarmsModel", "out", "()I"⟩
abbrev b_M_putBack : ByteArray := prog_11_method_6_code
def y_M_putBack : MethodName := ⟨"MountainFarmsModel", "putBack", "(I)I"⟩
abbrev b_M_on : ByteArray := prog_11_method_71_code
def y_M_on : MethodName := ⟨"MountainFarmsModel", "on", "(II)I"⟩
abbrev b_M_crop : ByteArray := prog_11_method_72_code
def y_M_crop : MethodName := ⟨"MountainFarmsModel", "crop", "(I)I"⟩
abbrev b_M_feed : ByteArray := prog_11_method_73_code
def y_M_feed : MethodName := ⟨"MountainFarmsModel", "feed", "(II)I"⟩
abbrev b_M_wipe : ByteArray := prog_11_method_74_code
def y_M_wipe : MethodName := ⟨"MountainFarmsModel", "wipe", "()I"⟩
abbrev b_M_slope : ByteArray := prog_11_method_87_code
def y_M_slope : MethodName := ⟨"MountainFarmsModel", "slope", "()I"⟩
abbrev b_M_next : ByteArray := prog_11_method_76_code
def y_M_next : MethodName := ⟨"MountainFarmsModel", "next", "()V"⟩
abbrev b_M_byteAt : ByteArray := prog_11_method_75_code
def y_M_byteAt : MethodName := ⟨"MountainFarmsModel", "byteAt", "(I)I"⟩
abbrev b_M_readItem : ByteArray := prog_11_method_82_code
def y_M_readItem : MethodName := ⟨"MountainFarmsModel", "readItem", "()V"⟩
abbrev b_M_kindTold : ByteArray := prog_11_method_81_code
def y_M_kindTold : MethodName := ⟨"MountainFarmsModel", "kindTold", "()I"⟩
abbrev b_M_isWord : ByteArray := prog_11_method_77_code
def y_M_isWord : MethodName := ⟨"MountainFarmsModel", "isWord", "(Ljava/lang/String;)Z"⟩
abbrev b_M_readFarm : ByteArray := prog_11_method_83_code
def y_M_readFarm : MethodName := ⟨"MountainFarmsModel", "readFarm", "(I)V"⟩
abbrev b_M_must : ByteArray := prog_11_method_78_code
def y_M_must : MethodName := ⟨"MountainFarmsModel", "must", "(Z)V"⟩
abbrev b_M_number : ByteArray := prog_11_method_79_code
def y_M_number : MethodName := ⟨"MountainFarmsModel", "number", "(II)I"⟩
abbrev b_M_item : ByteArray := prog_11_method_80_code
def y_M_item : MethodName := ⟨"MountainFarmsModel", "item", "(IIIIII)V"⟩
abbrev b_M_readTenths : ByteArray := prog_11_method_84_code
def y_M_readTenths : MethodName := ⟨"MountainFarmsModel", "readTenths", "(I)V"⟩
abbrev b_M_readSees : ByteArray := prog_11_method_85_code
def y_M_readSees : MethodName := ⟨"MountainFarmsModel", "readSees", "()V"⟩
abbrev b_M_isSo : ByteArray := prog_11_method_86_code
def y_M_isSo : MethodName := ⟨"MountainFarmsModel", "isSo", "(I)V"⟩
abbrev b_M_sheet : ByteArray := prog_11_method_90_code
def y_M_sheet : MethodName := ⟨"MountainFarmsModel", "sheet", "(III)I"⟩
abbrev b_M_isSheet : ByteArray := prog_11_method_88_code
def y_M_isSheet : MethodName := ⟨"MountainFarmsModel", "isSheet", "(I)Z"⟩
abbrev b_M_write : ByteArray := prog_11_method_91_code
def y_M_write : MethodName := ⟨"MountainFarmsModel", "write", "(IIJ)J"⟩
abbrev b_M_cutTo : ByteArray := prog_11_method_89_code
def y_M_cutTo : MethodName := ⟨"MountainFarmsModel", "cutTo", "(JI)J"⟩
abbrev b_M_copy : ByteArray := prog_11_method_92_code
def y_M_copy : MethodName := ⟨"MountainFarmsModel", "copy", "(IIIII)I"⟩
abbrev b_M_lays : ByteArray := prog_11_method_93_code
def y_M_lays : MethodName := ⟨"MountainFarmsModel", "lays", "(I)I"⟩
abbrev b_M_book : ByteArray := prog_11_method_94_code
def y_M_book : MethodName := ⟨"MountainFarmsModel", "book", "(I)I"⟩
abbrev b_M_read : ByteArray := prog_11_method_95_code
def y_M_read : MethodName := ⟨"MountainFarmsModel", "read", "(I)I"⟩
abbrev b_M_image : ByteArray := prog_11_method_96_code
def y_M_image : MethodName := ⟨"MountainFarmsModel", "image", "()I"⟩
abbrev b_M_undo : ByteArray := prog_11_method_97_code
def y_M_undo : MethodName := ⟨"MountainFarmsModel", "undo", "()I"⟩
abbrev b_M_tear : ByteArray := prog_11_method_98_code
def y_M_tear : MethodName := ⟨"MountainFarmsModel", "tear", "()I"⟩
abbrev b_M_count : ByteArray := prog_11_method_99_code
def y_M_count : MethodName := ⟨"MountainFarmsModel", "count", "(I)I"⟩
abbrev b_M_status : ByteArray := prog_11_method_100_code
def y_M_status : MethodName := ⟨"MountainFarmsModel", "status", "(I)I"⟩
def T_Fa : u_T := fun k => match k with
  | 0 => ("MountainFarms$Farms", "kinds", "[I", true)
  | 1 => ("MountainFarms$Farms", "cells", "[I", true)
  | 2 => ("MountainFarms$Farms", "owners", "[I", true)
  | 3 => ("MountainFarms$Farms", "purses", "[I", true)
  | 4 => ("MountainFarms$Farms", "number", "I", false)
  | _ => ("MountainFarms$Farms", "burnt", "I", false)
def ty_Fa : Nat → FieldType := fun k => match k with
  | 0 => .array .int
  | 1 => .array .int
  | 2 => .array .int
  | 3 => .array .int
  | 4 => .int
  | _ => .int
def T_Gr : u_T := fun k => match k with
  | 0 => ("MountainFarms$Ground", "heights", "[I", true)
  | 1 => ("MountainFarms$Ground", "ages", "[I", true)
  | 2 => ("MountainFarms$Ground", "walls", "[I", true)
  | 3 => ("MountainFarms$Ground", "vent", "I", false)
  | _ => ("MountainFarms$Ground", "ash", "I", false)
def ty_Gr : Nat → FieldType := fun k => match k with
  | 0 => .array .int
  | 1 => .array .int
  | 2 => .array .int
  | 3 => .int
  | _ => .int
def T_Mo : u_T := fun k => match k with
  | 0 => ("MountainFarms$Mountain", "chances", "[I", true)
  | 1 => ("MountainFarms$Mountain", "shows", "[I", true)
  | 2 => ("MountainFarms$Mountain", "diary", "[I", true)
  | 3 => ("MountainFarms$Mountain", "seen", "I", false)
  | 4 => ("MountainFarms$Mountain", "state", "I", false)
  | _ => ("MountainFarms$Mountain", "z", "I", false)
def ty_Mo : Nat → FieldType := fun k => match k with
  | 0 => .array .int
  | 1 => .array .int
  | 2 => .array .int
  | 3 => .int
  | 4 => .int
  | _ => .int
def T_Pa : u_T := fun k => match k with
  | 0 => ("MountainFarms$Parts", "rows", "[J", true)
  | _ => ("MountainFarms$Parts", "next", "[J", true)
def ty_Pa : Nat → FieldType := fun k => match k with
  | 0 => .array .long
  | _ => .array .long
def T_Sh : u_T := fun k => match k with
  | 0 => ("MountainFarms$Sheet", "numbers", "[J", true)
  | 1 => ("MountainFarms$Sheet", "bits", "I", false)
  | _ => ("MountainFarms$Sheet", "size", "I", false)
def ty_Sh : Nat → FieldType := fun k => match k with
  | 0 => .array .long
  | 1 => .int
  | _ => .int
def T_Sl : u_T := fun k => match k with
  | 0 => ("MountainFarms$Slope", "ground", "LMountainFarms$Ground;", true)
  | 1 => ("MountainFarms$Slope", "farms", "LMountainFarms$Farms;", true)
  | 2 => ("MountainFarms$Slope", "mountain", "LMountainFarms$Mountain;", true)
  | 3 => ("MountainFarms$Slope", "month", "I", false)
  | 4 => ("MountainFarms$Slope", "volume", "I", false)
  | 5 => ("MountainFarms$Slope", "outs", "I", false)
  | 6 => ("MountainFarms$Slope", "fed", "I", false)
  | 7 => ("MountainFarms$Slope", "fedOuts", "I", false)
  | _ => ("MountainFarms$Slope", "arePigsTold", "Z", false)
def ty_Sl : Nat → FieldType := fun k => match k with
  | 0 => .object "MountainFarms$Ground"
  | 1 => .object "MountainFarms$Farms"
  | 2 => .object "MountainFarms$Mountain"
  | 3 => .int
  | 4 => .int
  | 5 => .int
  | 6 => .int
  | 7 => .int
  | _ => .boolean
def T_Tx : u_T := fun k => match k with
  | _ => ("MountainFarms$SlopeText", "tape", "LMountainFarms$Tape;", true)
def ty_Tx : Nat → FieldType := fun k => match k with
  | _ => .object "MountainFarms$Tape"
def T_Ta : u_T := fun k => match k with
  | 0 => ("MountainFarms$Tape", "bytes", "[I", true)
  | 1 => ("MountainFarms$Tape", "size", "I", false)
  | 2 => ("MountainFarms$Tape", "start", "I", false)
  | 3 => ("MountainFarms$Tape", "end", "I", false)
  | 4 => ("MountainFarms$Tape", "sort", "I", false)
  | _ => ("MountainFarms$Tape", "value", "I", false)
def ty_Ta : Nat → FieldType := fun k => match k with
  | 0 => .array .int
  | 1 => .int
  | 2 => .int
  | 3 => .int
  | 4 => .int
  | _ => .int
def T_X : u_T := fun k => match k with
  | 0 => ("MountainFarms", "here", "LMountainFarms$Slope;", true)
  | 1 => ("MountainFarms", "kept", "LMountainFarms$Slope;", true)
  | 2 => ("MountainFarms", "trial", "LMountainFarms$Slope;", true)
  | 3 => ("MountainFarms", "parts", "LMountainFarms$Parts;", true)
  | 4 => ("MountainFarms", "text", "LMountainFarms$SlopeText;", true)
  | 5 => ("MountainFarms", "sheets", "[LMountainFarms$Sheet;", true)
  | 6 => ("MountainFarms", "findings", "[I", true)
  | _ => ("MountainFarms", "isKept", "Z", false)
def ty_X : Nat → FieldType := fun k => match k with
  | 0 => .object "MountainFarms$Slope"
  | 1 => .object "MountainFarms$Slope"
  | 2 => .object "MountainFarms$Slope"
  | 3 => .object "MountainFarms$Parts"
  | 4 => .object "MountainFarms$SlopeText"
  | 5 => .array (.object "MountainFarms$Sheet")
  | 6 => .array .int
  | _ => .boolean
def T_M : u_T := fun k => match k with
  | 0 => ("MountainFarmsModel", "now", "[I", true)
  | 1 => ("MountainFarmsModel", "kept", "[I", true)
  | 2 => ("MountainFarmsModel", "aside", "[I", true)
  | 3 => ("MountainFarmsModel", "isKept", "Z", false)
  | 4 => ("MountainFarmsModel", "found", "[I", true)
  | 5 => ("MountainFarmsModel", "down", "[I", true)
  | 6 => ("MountainFarmsModel", "along", "[I", true)
  | 7 => ("MountainFarmsModel", "parts", "[J", true)
  | 8 => ("MountainFarmsModel", "gone", "[J", true)
  | 9 => ("MountainFarmsModel", "tape", "[I", true)
  | 10 => ("MountainFarmsModel", "taped", "I", false)
  | 11 => ("MountainFarmsModel", "begins", "I", false)
  | 12 => ("MountainFarmsModel", "ends", "I", false)
  | 13 => ("MountainFarmsModel", "sort", "I", false)
  | 14 => ("MountainFarmsModel", "value", "I", false)
  | 15 => ("MountainFarmsModel", "isWrong", "Z", false)
  | 16 => ("MountainFarmsModel", "kinds", "[Ljava/lang/String;", true)
  | 17 => ("MountainFarmsModel", "items", "[I", true)
  | 18 => ("MountainFarmsModel", "itemMany", "I", false)
  | 19 => ("MountainFarmsModel", "farmMany", "I", false)
  | 20 => ("MountainFarmsModel", "farmCells", "J", false)
  | 21 => ("MountainFarmsModel", "widths", "[I", true)
  | 22 => ("MountainFarmsModel", "sizes", "[I", true)
  | 23 => ("MountainFarmsModel", "numbers", "[J", true)
  | _ => ("MountainFarmsModel", "moved", "[J", true)
def ty_M : Nat → FieldType := fun k => match k with
  | 0 => .array .int
  | 1 => .array .int
  | 2 => .array .int
  | 3 => .boolean
  | 4 => .array .int
  | 5 => .array .int
  | 6 => .array .int
  | 7 => .array .long
  | 8 => .array .long
  | 9 => .array .int
  | 10 => .int
  | 11 => .int
  | 12 => .int
  | 13 => .int
  | 14 => .int
  | 15 => .boolean
  | 16 => .array (.object "java/lang/String")
  | 17 => .array .int
  | 18 => .int
  | 19 => .int
  | 20 => .long
  | 21 => .array .int
  | 22 => .array .int
  | 23 => .array .long
  | _ => .array .long
abbrev vwCl : List vw_C := [("MountainFarms$Farms", T_Fa, 6), ("MountainFarms$Ground", T_Gr, 5), ("MountainFarms$Mountain", T_Mo, 6), ("MountainFarms$Parts", T_Pa, 2), ("MountainFarms$Sheet", T_Sh, 3), ("MountainFarms$Slope", T_Sl, 9), ("MountainFarms$SlopeText", T_Tx, 1), ("MountainFarms$Tape", T_Ta, 6), ("MountainFarms", T_X, 8), ("MountainFarmsModel", T_M, 25)]
theorem nm_Fa : ∀ a, a < 6 → ∀ b, b < 6 → a ≠ b → (T_Fa a).2.1 ≠ (T_Fa b).2.1 := by decide +kernel
theorem tyok_Fa : ∀ k, k < 6 → parseFieldDescriptor (T_Fa k).2.2.1 = some (ty_Fa k) := by decide +kernel
theorem inl_Fa : ∀ w ∈ u_ws "MountainFarms$Farms" T_Fa 6, w ∈ GW := by decide +kernel
theorem nm_Gr : ∀ a, a < 5 → ∀ b, b < 5 → a ≠ b → (T_Gr a).2.1 ≠ (T_Gr b).2.1 := by decide +kernel
theorem tyok_Gr : ∀ k, k < 5 → parseFieldDescriptor (T_Gr k).2.2.1 = some (ty_Gr k) := by decide +kernel
theorem inl_Gr : ∀ w ∈ u_ws "MountainFarms$Ground" T_Gr 5, w ∈ GW := by decide +kernel
theorem nm_Mo : ∀ a, a < 6 → ∀ b, b < 6 → a ≠ b → (T_Mo a).2.1 ≠ (T_Mo b).2.1 := by decide +kernel
theorem tyok_Mo : ∀ k, k < 6 → parseFieldDescriptor (T_Mo k).2.2.1 = some (ty_Mo k) := by decide +kernel
theorem inl_Mo : ∀ w ∈ u_ws "MountainFarms$Mountain" T_Mo 6, w ∈ GW := by decide +kernel
theorem nm_Pa : ∀ a, a < 2 → ∀ b, b < 2 → a ≠ b → (T_Pa a).2.1 ≠ (T_Pa b).2.1 := by decide +kernel
theorem tyok_Pa : ∀ k, k < 2 → parseFieldDescriptor (T_Pa k).2.2.1 = some (ty_Pa k) := by decide +kernel
theorem inl_Pa : ∀ w ∈ u_ws "MountainFarms$Parts" T_Pa 2, w ∈ GW := by decide +kernel
theorem nm_Sh : ∀ a, a < 3 → ∀ b, b < 3 → a ≠ b → (T_Sh a).2.1 ≠ (T_Sh b).2.1 := by decide +kernel
theorem tyok_Sh : ∀ k, k < 3 → parseFieldDescriptor (T_Sh k).2.2.1 = some (ty_Sh k) := by decide +kernel
theorem inl_Sh : ∀ w ∈ u_ws "MountainFarms$Sheet" T_Sh 3, w ∈ GW := by decide +kernel
theorem nm_Sl : ∀ a, a < 9 → ∀ b, b < 9 → a ≠ b → (T_Sl a).2.1 ≠ (T_Sl b).2.1 := by decide +kernel
theorem tyok_Sl : ∀ k, k < 9 → parseFieldDescriptor (T_Sl k).2.2.1 = some (ty_Sl k) := by decide +kernel
theorem inl_Sl : ∀ w ∈ u_ws "MountainFarms$Slope" T_Sl 9, w ∈ GW := by decide +kernel
theorem nm_Tx : ∀ a, a < 1 → ∀ b, b < 1 → a ≠ b → (T_Tx a).2.1 ≠ (T_Tx b).2.1 := by decide +kernel
theorem tyok_Tx : ∀ k, k < 1 → parseFieldDescriptor (T_Tx k).2.2.1 = some (ty_Tx k) := by decide +kernel
theorem inl_Tx : ∀ w ∈ u_ws "MountainFarms$SlopeText" T_Tx 1, w ∈ GW := by decide +kernel
theorem nm_Ta : ∀ a, a < 6 → ∀ b, b < 6 → a ≠ b → (T_Ta a).2.1 ≠ (T_Ta b).2.1 := by decide +kernel
theorem tyok_Ta : ∀ k, k < 6 → parseFieldDescriptor (T_Ta k).2.2.1 = some (ty_Ta k) := by decide +kernel
theorem inl_Ta : ∀ w ∈ u_ws "MountainFarms$Tape" T_Ta 6, w ∈ GW := by decide +kernel
theorem nm_X : ∀ a, a < 8 → ∀ b, b < 8 → a ≠ b → (T_X a).2.1 ≠ (T_X b).2.1 := by decide +kernel
theorem tyok_X : ∀ k, k < 8 → parseFieldDescriptor (T_X k).2.2.1 = some (ty_X k) := by decide +kernel
theorem inl_X : ∀ w ∈ u_ws "MountainFarms" T_X 8, w ∈ GW := by decide +kernel
theorem nm_M : ∀ a, a < 25 → ∀ b, b < 25 → a ≠ b → (T_M a).2.1 ≠ (T_M b).2.1 := by decide +kernel
theorem tyok_M : ∀ k, k < 25 → parseFieldDescriptor (T_M k).2.2.1 = some (ty_M k) := by decide +kernel
theorem inl_M : ∀ w ∈ u_ws "MountainFarmsModel" T_M 25, w ∈ GW := by decide +kernel
theorem gw_0 : (.initialized "MountainFarmsLaw" : Cond) ∈ GW := gm_1 (gk_spec (k := 0) (by decide +kernel)) rfl
theorem gw_1 : (.initialized "MountainFarms" : Cond) ∈ GW := gm_1 (gk_spec (k := 1) (by decide +kernel)) rfl
theorem gw_2 : (.initialized "MountainFarms$Slope" : Cond) ∈ GW := gm_1 (gk_spec (k := 2) (by decide +kernel)) rfl
theorem gw_3 : (.initialized "MountainFarms$Ground" : Cond) ∈ GW := gm_1 (gk_spec (k := 3) (by decide +kernel)) rfl
theorem gw_4 : (.initialized "java/lang/Math" : Cond) ∈ GW := gm_1 (gk_spec (k := 4) (by decide +kernel)) rfl
theorem gw_5 : (.initialized "MountainFarms$Farms" : Cond) ∈ GW := gm_1 (gk_spec (k := 5) (by decide +kernel)) rfl
theorem gw_6 : (.initialized "MountainFarms$Mountain" : Cond) ∈ GW := gm_1 (gk_spec (k := 6) (by decide +kernel)) rfl
theorem gw_7 : (.initialized "MountainFarms$Parts" : Cond) ∈ GW := gm_1 (gk_spec (k := 7) (by decide +kernel)) rfl
theorem gw_8 : (.initialized "MountainFarms$SlopeText" : Cond) ∈ GW := gm_1 (gk_spec (k := 8) (by decide +kernel)) rfl
theorem gw_9 : (.initialized "MountainFarms$Tape" : Cond) ∈ GW := gm_1 (gk_spec (k := 9) (by decide +kernel)) rfl
theorem gw_10 : (.initialized "MountainFarms$Sheet" : Cond) ∈ GW := gm_1 (gk_spec (k := 10) (by decide +kernel)) rfl
theorem gw_11 : (.initialized "MountainFarmsModel" : Cond) ∈ GW := gm_1 (gk_spec (k := 11) (by decide +kernel)) rfl
theorem gw_12 : (.initialized "java/lang/System" : Cond) ∈ GW := gm_1 (gk_spec (k := 12) (by decide +kernel)) rfl
theorem gw_13 : (.initialized "java/lang/Integer" : Cond) ∈ GW := gm_1 (gk_spec (k := 13) (by decide +kernel)) rfl
theorem gw_14 : (.initialized "java/lang/Long" : Cond) ∈ GW := gm_1 (gk_spec (k := 14) (by decide +kernel)) rfl
theorem gw_15 : (.initialized "java/lang/String" : Cond) ∈ GW := gm_1 (gk_spec (k := 15) (by decide +kernel)) rfl
theorem gw_16 : (.initialized "java/lang/StringLatin1" : Cond) ∈ GW := gm_1 (gk_spec (k := 16) (by decide +kernel)) rfl
theorem gw_17 : (.initialized "jdk/internal/util/Preconditions" : Cond) ∈ GW := gm_1 (gk_spec (k := 17) (by decide +kernel)) rfl
theorem gw_18 : (.initialized "java/lang/StringUTF16" : Cond) ∈ GW := gm_1 (gk_spec (k := 18) (by decide +kernel)) rfl
theorem gw_19 : (.classLink "MountainFarmsLaw" 7 "MountainFarms" : Cond) ∈ GW := gm_1 (gk_spec (k := 19) (by decide +kernel)) rfl
theorem gw_20 : (.instantiable "MountainFarms" 8 : Cond) ∈ GW := gm_1 (gk_spec (k := 20) (by decide +kernel)) rfl
theorem gw_21 : (.methodLink "MountainFarmsLaw" 9 y_X_init : Cond) ∈ GW := gm_1 (gk_spec (k := 21) (by decide +kernel)) rfl
theorem gw_22 : (.instanceMethod y_X_init : Cond) ∈ GW := gm_1 (gk_spec (k := 22) (by decide +kernel)) rfl
theorem gw_23 : (.code y_X_init b_X_init 1 none : Cond) ∈ GW := gm_1 (List.mem_of_getElem? (i := 23) rfl) rfl
theorem gw_24 : (.methodLink "MountainFarms" 1 y_Ob_init : Cond) ∈ GW := gm_1 (gk_spec (k := 24) (by decide +kernel)) rfl
theorem gw_25 : (.instanceMethod y_Ob_init : Cond) ∈ GW := gm_1 (gk_spec (k := 25) (by decide +kernel)) rfl
theorem gw_26 : (.code y_Ob_init b_Ob_init 1 none : Cond) ∈ GW := gm_1 (List.mem_of_getElem? (i := 26) rfl) rfl
theorem gw_27 : (.classLink "MountainFarms" 7 "MountainFarms$Slope" : Cond) ∈ GW := gm_1 (gk_spec (k := 27) (by decide +kernel)) rfl
theorem gw_28 : (.instantiable "MountainFarms$Slope" 9 : Cond) ∈ GW := gm_1 (gk_spec (k := 28) (by decide +kernel)) rfl
theorem gw_30 : (.instanceMethod y_Sl_init : Cond) ∈ GW := gm_1 (gk_spec (k := 30) (by decide +kernel)) rfl
theorem gw_31 : (.code y_Sl_init b_Sl_init 1 none : Cond) ∈ GW := gm_1 (List.mem_of_getElem? (i := 31) rfl) rfl
theorem gw_32 : (.methodLink "MountainFarms$Slope" 1 y_Ob_init : Cond) ∈ GW := gm_1 (gk_spec (k := 32) (by decide +kernel)) rfl
theorem gw_33 : (.classLink "MountainFarms$Slope" 7 "MountainFarms$Ground" : Cond) ∈ GW := gm_1 (gk_spec (k := 33) (by decide +kernel)) rfl
theorem gw_34 : (.instantiable "MountainFarms$Ground" 5 : Cond) ∈ GW := gm_1 (gk_spec (k := 34) (by decide +kernel)) rfl
theorem gw_35 : (.methodLink "MountainFarms$Slope" 9 y_Gr_init : Cond) ∈ GW := gm_1 (gk_spec (k := 35) (by decide +kernel)) rfl
theorem gw_36 : (.instanceMethod y_Gr_init : Cond) ∈ GW := gm_1 (gk_spec (k := 36) (by decide +kernel)) rfl
theorem gw_37 : (.code y_Gr_init b_Gr_init 4 none : Cond) ∈ GW := gm_1 (List.mem_of_getElem? (i := 37) rfl) rfl
theorem gw_38 : (.methodLink "MountainFarms$Ground" 3 y_Ob_init : Cond) ∈ GW := gm_1 (gk_spec (k := 38) (by decide +kernel)) rfl
theorem gw_39 : (.methodLink "MountainFarms$Ground" 28 y_Ma_abs : Cond) ∈ GW := gm_1 (gk_spec (k := 39) (by decide +kernel)) rfl
theorem gw_40 : (.static y_Ma_abs : Cond) ∈ GW := gm_1 (gk_spec (k := 40) (by decide +kernel)) rfl
theorem gw_41 : (.code y_Ma_abs b_Ma_abs 1 (some .int) : Cond) ∈ GW := gm_1 (List.mem_of_getElem? (i := 41) rfl) rfl
theorem gw_42 : (.methodLink "MountainFarms$Ground" 34 y_Ma_max : Cond) ∈ GW := gm_1 (gk_spec (k := 42) (by decide +kernel)) rfl
theorem gw_43 : (.static y_Ma_max : Cond) ∈ GW := gm_1 (gk_spec (k := 43) (by decide +kernel)) rfl
theorem gw_44 : (.code y_Ma_max b_Ma_max 2 (some .int) : Cond) ∈ GW := gm_1 (List.mem_of_getElem? (i := 44) rfl) rfl
theorem gw_45 : (.fieldLink "MountainFarms$Ground" 9 "MountainFarms$Ground" "heights" "[I" : Cond) ∈ GW := gm_1 (gk_spec (k := 45) (by decide +kernel)) rfl
theorem gw_46 : (.fieldLink "MountainFarms" 67 "MountainFarms$Ground" "heights" "[I" : Cond) ∈ GW := gm_1 (gk_spec (k := 46) (by decide +kernel)) rfl
theorem gw_47 : (.fieldLink "MountainFarms$SlopeText" 69 "MountainFarms$Ground" "heights" "[I" : Cond) ∈ GW := gm_1 (gk_spec (k := 47) (by decide +kernel)) rfl
theorem gw_48 : (.fieldLink "MountainFarms$Ground" 15 "MountainFarms$Ground" "ages" "[I" : Cond) ∈ GW := gm_1 (gk_spec (k := 48) (by decide +kernel)) rfl
theorem gw_49 : (.fieldLink "MountainFarms" 72 "MountainFarms$Ground" "ages" "[I" : Cond) ∈ GW := gm_1 (gk_spec (k := 49) (by decide +kernel)) rfl
theorem gw_50 : (.fieldLink "MountainFarms$SlopeText" 81 "MountainFarms$Ground" "ages" "[I" : Cond) ∈ GW := gm_1 (gk_spec (k := 50) (by decide +kernel)) rfl
theorem gw_51 : (.fieldLink "MountainFarms$Ground" 18 "MountainFarms$Ground" "walls" "[I" : Cond) ∈ GW := gm_1 (gk_spec (k := 51) (by decide +kernel)) rfl
theorem gw_52 : (.fieldLink "MountainFarms" 84 "MountainFarms$Ground" "walls" "[I" : Cond) ∈ GW := gm_1 (gk_spec (k := 52) (by decide +kernel)) rfl
theorem gw_53 : (.fieldLink "MountainFarms$Ground" 21 "MountainFarms$Ground" "vent" "I" : Cond) ∈ GW := gm_1 (gk_spec (k := 53) (by decide +kernel)) rfl
theorem gw_54 : (.fieldLink "MountainFarms" 87 "MountainFarms$Ground" "vent" "I" : Cond) ∈ GW := gm_1 (gk_spec (k := 54) (by decide +kernel)) rfl
theorem gw_55 : (.fieldLink "MountainFarms$Slope" 76 "MountainFarms$Ground" "vent" "I" : Cond) ∈ GW := gm_1 (gk_spec (k := 55) (by decide +kernel)) rfl
theorem gw_56 : (.fieldLink "MountainFarms$SlopeText" 155 "MountainFarms$Ground" "vent" "I" : Cond) ∈ GW := gm_1 (gk_spec (k := 56) (by decide +kernel)) rfl
theorem gw_57 : (.fieldLink "MountainFarms$Ground" 25 "MountainFarms$Ground" "ash" "I" : Cond) ∈ GW := gm_1 (gk_spec (k := 57) (by decide +kernel)) rfl
theorem gw_58 : (.fieldLink "MountainFarms$Farms" 51 "MountainFarms$Ground" "ash" "I" : Cond) ∈ GW := gm_1 (gk_spec (k := 58) (by decide +kernel)) rfl
theorem gw_59 : (.fieldLink "MountainFarms" 151 "MountainFarms$Ground" "ash" "I" : Cond) ∈ GW := gm_1 (gk_spec (k := 59) (by decide +kernel)) rfl
theorem gw_71 : (.arrayClass (Jvm.ClassFile.FieldType.int) : Cond) ∈ GW := gm_1 (gk_spec (k := 71) (by decide +kernel)) rfl
theorem gw_72 : (.classLink "MountainFarms$Slope" 16 "MountainFarms$Farms" : Cond) ∈ GW := gm_1 (gk_spec (k := 72) (by decide +kernel)) rfl
theorem gw_73 : (.instantiable "MountainFarms$Farms" 6 : Cond) ∈ GW := gm_1 (gk_spec (k := 73) (by decide +kernel)) rfl
theorem gw_75 : (.instanceMethod y_Fa_init : Cond) ∈ GW := gm_1 (gk_spec (k := 75) (by decide +kernel)) rfl
theorem gw_76 : (.code y_Fa_init b_Fa_init 1 none : Cond) ∈ GW := gm_1 (List.mem_of_getElem? (i := 76) rfl) rfl
theorem gw_77 : (.methodLink "MountainFarms$Farms" 3 y_Ob_init : Cond) ∈ GW := gm_1 (gk_spec (k := 77) (by decide +kernel)) rfl
theorem gw_78 : (.fieldLink "MountainFarms$Farms" 9 "MountainFarms$Farms" "kinds" "[I" : Cond) ∈ GW := gm_1 (gk_spec (k := 78) (by decide +kernel)) rfl
theorem gw_79 : (.fieldLink "MountainFarms" 120 "MountainFarms$Farms" "kinds" "[I" : Cond) ∈ GW := gm_1 (gk_spec (k := 79) (by decide +kernel)) rfl
theorem gw_80 : (.fieldLink "MountainFarms$Farms" 15 "MountainFarms$Farms" "cells" "[I" : Cond) ∈ GW := gm_1 (gk_spec (k := 80) (by decide +kernel)) rfl
theorem gw_81 : (.fieldLink "MountainFarms" 123 "MountainFarms$Farms" "cells" "[I" : Cond) ∈ GW := gm_1 (gk_spec (k := 81) (by decide +kernel)) rfl
theorem gw_82 : (.fieldLink "MountainFarms$Farms" 18 "MountainFarms$Farms" "owners" "[I" : Cond) ∈ GW := gm_1 (gk_spec (k := 82) (by decide +kernel)) rfl
theorem gw_83 : (.fieldLink "MountainFarms" 126 "MountainFarms$Farms" "owners" "[I" : Cond) ∈ GW := gm_1 (gk_spec (k := 83) (by decide +kernel)) rfl
theorem gw_84 : (.fieldLink "MountainFarms$Farms" 21 "MountainFarms$Farms" "purses" "[I" : Cond) ∈ GW := gm_1 (gk_spec (k := 84) (by decide +kernel)) rfl
theorem gw_85 : (.fieldLink "MountainFarms" 129 "MountainFarms$Farms" "purses" "[I" : Cond) ∈ GW := gm_1 (gk_spec (k := 85) (by decide +kernel)) rfl
theorem gw_86 : (.fieldLink "MountainFarms$Farms" 24 "MountainFarms$Farms" "number" "I" : Cond) ∈ GW := gm_1 (gk_spec (k := 86) (by decide +kernel)) rfl
theorem gw_87 : (.fieldLink "MountainFarms" 332 "MountainFarms$Farms" "number" "I" : Cond) ∈ GW := gm_1 (gk_spec (k := 87) (by decide +kernel)) rfl
theorem gw_88 : (.fieldLink "MountainFarms$Farms" 28 "MountainFarms$Farms" "burnt" "I" : Cond) ∈ GW := gm_1 (gk_spec (k := 88) (by decide +kernel)) rfl
theorem gw_89 : (.fieldLink "MountainFarms$Slope" 87 "MountainFarms$Farms" "burnt" "I" : Cond) ∈ GW := gm_1 (gk_spec (k := 89) (by decide +kernel)) rfl
theorem gw_90 : (.fieldLink "MountainFarms" 142 "MountainFarms$Farms" "burnt" "I" : Cond) ∈ GW := gm_1 (gk_spec (k := 90) (by decide +kernel)) rfl
theorem gw_104 : (.classLink "MountainFarms$Slope" 23 "MountainFarms$Mountain" : Cond) ∈ GW := gm_1 (gk_spec (k := 104) (by decide +kernel)) rfl
theorem gw_105 : (.instantiable "MountainFarms$Mountain" 6 : Cond) ∈ GW := gm_1 (gk_spec (k := 105) (by decide +kernel)) rfl
theorem gw_106 : (.methodLink "MountainFarms$Slope" 25 y_Mo_init : Cond) ∈ GW := gm_1 (gk_spec (k := 106) (by decide +kernel)) rfl
theorem gw_107 : (.instanceMethod y_Mo_init : Cond) ∈ GW := gm_1 (gk_spec (k := 107) (by decide +kernel)) rfl
theorem gw_108 : (.code y_Mo_init b_Mo_init 3 none : Cond) ∈ GW := gm_1 (List.mem_of_getElem? (i := 108) rfl) rfl
theorem gw_109 : (.methodLink "MountainFarms$Mountain" 3 y_Ob_init : Cond) ∈ GW := gm_1 (gk_spec (k := 109) (by decide +kernel)) rfl
theorem gw_110 : (.fieldLink "MountainFarms$Mountain" 9 "MountainFarms$Mountain" "chances" "[I" : Cond) ∈ GW := gm_1 (gk_spec (k := 110) (by decide +kernel)) rfl
theorem gw_111 : (.fieldLink "MountainFarms$Mountain" 15 "MountainFarms$Mountain" "shows" "[I" : Cond) ∈ GW := gm_1 (gk_spec (k := 111) (by decide +kernel)) rfl
theorem gw_112 : (.fieldLink "MountainFarms$Mountain" 18 "MountainFarms$Mountain" "diary" "[I" : Cond) ∈ GW := gm_1 (gk_spec (k := 112) (by decide +kernel)) rfl
theorem gw_113 : (.fieldLink "MountainFarms$Parts" 26 "MountainFarms$Mountain" "diary" "[I" : Cond) ∈ GW := gm_1 (gk_spec (k := 113) (by decide +kernel)) rfl
theorem gw_114 : (.fieldLink "MountainFarms$Mountain" 21 "MountainFarms$Mountain" "seen" "I" : Cond) ∈ GW := gm_1 (gk_spec (k := 114) (by decide +kernel)) rfl
theorem gw_115 : (.fieldLink "MountainFarms$Parts" 20 "MountainFarms$Mountain" "seen" "I" : Cond) ∈ GW := gm_1 (gk_spec (k := 115) (by decide +kernel)) rfl
theorem gw_116 : (.fieldLink "MountainFarms$SlopeText" 166 "MountainFarms$Mountain" "seen" "I" : Cond) ∈ GW := gm_1 (gk_spec (k := 116) (by decide +kernel)) rfl
theorem gw_117 : (.fieldLink "MountainFarms" 188 "MountainFarms$Mountain" "seen" "I" : Cond) ∈ GW := gm_1 (gk_spec (k := 117) (by decide +kernel)) rfl
theorem gw_118 : (.fieldLink "MountainFarms$Mountain" 25 "MountainFarms$Mountain" "state" "I" : Cond) ∈ GW := gm_1 (gk_spec (k := 118) (by decide +kernel)) rfl
theorem gw_119 : (.fieldLink "MountainFarms" 253 "MountainFarms$Mountain" "state" "I" : Cond) ∈ GW := gm_1 (gk_spec (k := 119) (by decide +kernel)) rfl
theorem gw_120 : (.fieldLink "MountainFarms$Mountain" 28 "MountainFarms$Mountain" "z" "I" : Cond) ∈ GW := gm_1 (gk_spec (k := 120) (by decide +kernel)) rfl
theorem gw_121 : (.fieldLink "MountainFarms" 250 "MountainFarms$Mountain" "z" "I" : Cond) ∈ GW := gm_1 (gk_spec (k := 121) (by decide +kernel)) rfl
theorem gw_135 : (.fieldLink "MountainFarms$Slope" 10 "MountainFarms$Slope" "ground" "LMountainFarms$Ground;" : Cond) ∈ GW := gm_1 (gk_spec (k := 135) (by decide +kernel)) rfl
theorem gw_136 : (.fieldLink "MountainFarms" 63 "MountainFarms$Slope" "ground" "LMountainFarms$Ground;" : Cond) ∈ GW := gm_1 (gk_spec (k := 136) (by decide +kernel)) rfl
theorem gw_137 : (.fieldLink "MountainFarms$SlopeText" 59 "MountainFarms$Slope" "ground" "LMountainFarms$Ground;" : Cond) ∈ GW := gm_1 (gk_spec (k := 137) (by decide +kernel)) rfl
theorem gw_138 : (.fieldLink "MountainFarms$Slope" 19 "MountainFarms$Slope" "farms" "LMountainFarms$Farms;" : Cond) ∈ GW := gm_1 (gk_spec (k := 138) (by decide +kernel)) rfl
theorem gw_139 : (.fieldLink "MountainFarms$SlopeText" 43 "MountainFarms$Slope" "farms" "LMountainFarms$Farms;" : Cond) ∈ GW := gm_1 (gk_spec (k := 139) (by decide +kernel)) rfl
theorem gw_140 : (.fieldLink "MountainFarms" 75 "MountainFarms$Slope" "farms" "LMountainFarms$Farms;" : Cond) ∈ GW := gm_1 (gk_spec (k := 140) (by decide +kernel)) rfl
theorem gw_141 : (.fieldLink "MountainFarms$Slope" 26 "MountainFarms$Slope" "mountain" "LMountainFarms$Mountain;" : Cond) ∈ GW := gm_1 (gk_spec (k := 141) (by decide +kernel)) rfl
theorem gw_142 : (.fieldLink "MountainFarms$SlopeText" 91 "MountainFarms$Slope" "mountain" "LMountainFarms$Mountain;" : Cond) ∈ GW := gm_1 (gk_spec (k := 142) (by decide +kernel)) rfl
theorem gw_143 : (.fieldLink "MountainFarms" 165 "MountainFarms$Slope" "mountain" "LMountainFarms$Mountain;" : Cond) ∈ GW := gm_1 (gk_spec (k := 143) (by decide +kernel)) rfl
theorem gw_144 : (.fieldLink "MountainFarms$Slope" 30 "MountainFarms$Slope" "month" "I" : Cond) ∈ GW := gm_1 (gk_spec (k := 144) (by decide +kernel)) rfl
theorem gw_145 : (.fieldLink "MountainFarms" 244 "MountainFarms$Slope" "month" "I" : Cond) ∈ GW := gm_1 (gk_spec (k := 145) (by decide +kernel)) rfl
theorem gw_146 : (.fieldLink "MountainFarms$Slope" 34 "MountainFarms$Slope" "volume" "I" : Cond) ∈ GW := gm_1 (gk_spec (k := 146) (by decide +kernel)) rfl
theorem gw_147 : (.fieldLink "MountainFarms" 238 "MountainFarms$Slope" "volume" "I" : Cond) ∈ GW := gm_1 (gk_spec (k := 147) (by decide +kernel)) rfl
theorem gw_148 : (.fieldLink "MountainFarms$Slope" 37 "MountainFarms$Slope" "outs" "I" : Cond) ∈ GW := gm_1 (gk_spec (k := 148) (by decide +kernel)) rfl
theorem gw_149 : (.fieldLink "MountainFarms" 256 "MountainFarms$Slope" "outs" "I" : Cond) ∈ GW := gm_1 (gk_spec (k := 149) (by decide +kernel)) rfl
theorem gw_150 : (.fieldLink "MountainFarms$Slope" 40 "MountainFarms$Slope" "fed" "I" : Cond) ∈ GW := gm_1 (gk_spec (k := 150) (by decide +kernel)) rfl
theorem gw_151 : (.fieldLink "MountainFarms" 259 "MountainFarms$Slope" "fed" "I" : Cond) ∈ GW := gm_1 (gk_spec (k := 151) (by decide +kernel)) rfl
theorem gw_152 : (.fieldLink "MountainFarms$Slope" 43 "MountainFarms$Slope" "fedOuts" "I" : Cond) ∈ GW := gm_1 (gk_spec (k := 152) (by decide +kernel)) rfl
theorem gw_153 : (.fieldLink "MountainFarms" 262 "MountainFarms$Slope" "fedOuts" "I" : Cond) ∈ GW := gm_1 (gk_spec (k := 153) (by decide +kernel)) rfl
theorem gw_154 : (.fieldLink "MountainFarms$Slope" 46 "MountainFarms$Slope" "arePigsTold" "Z" : Cond) ∈ GW := gm_1 (gk_spec (k := 154) (by decide +kernel)) rfl
theorem gw_155 : (.fieldLink "MountainFarms" 241 "MountainFarms$Slope" "arePigsTold" "Z" : Cond) ∈ GW := gm_1 (gk_spec (k := 155) (by decide +kernel)) rfl
theorem gw_175 : (.classLink "MountainFarms" 22 "MountainFarms$Parts" : Cond) ∈ GW := gm_1 (gk_spec (k := 175) (by decide +kernel)) rfl
theorem gw_176 : (.instantiable "MountainFarms$Parts" 2 : Cond) ∈ GW := gm_1 (gk_spec (k := 176) (by decide +kernel)) rfl
theorem gw_178 : (.instanceMethod y_Pa_init : Cond) ∈ GW := gm_1 (gk_spec (k := 178) (by decide +kernel)) rfl
theorem gw_179 : (.code y_Pa_init b_Pa_init 1 none : Cond) ∈ GW := gm_1 (List.mem_of_getElem? (i := 179) rfl) rfl
theorem gw_180 : (.methodLink "MountainFarms$Parts" 3 y_Ob_init : Cond) ∈ GW := gm_1 (gk_spec (k := 180) (by decide +kernel)) rfl
theorem gw_181 : (.fieldLink "MountainFarms$Parts" 9 "MountainFarms$Parts" "rows" "[J" : Cond) ∈ GW := gm_1 (gk_spec (k := 181) (by decide +kernel)) rfl
theorem gw_182 : (.fieldLink "MountainFarms" 199 "MountainFarms$Parts" "rows" "[J" : Cond) ∈ GW := gm_1 (gk_spec (k := 182) (by decide +kernel)) rfl
theorem gw_183 : (.fieldLink "MountainFarms$Parts" 15 "MountainFarms$Parts" "next" "[J" : Cond) ∈ GW := gm_1 (gk_spec (k := 183) (by decide +kernel)) rfl
theorem gw_189 : (.arrayClass (Jvm.ClassFile.FieldType.long) : Cond) ∈ GW := gm_1 (gk_spec (k := 189) (by decide +kernel)) rfl
theorem gw_190 : (.classLink "MountainFarms" 29 "MountainFarms$SlopeText" : Cond) ∈ GW := gm_1 (gk_spec (k := 190) (by decide +kernel)) rfl
theorem gw_191 : (.instantiable "MountainFarms$SlopeText" 1 : Cond) ∈ GW := gm_1 (gk_spec (k := 191) (by decide +kernel)) rfl
theorem gw_193 : (.instanceMethod y_Tx_init : Cond) ∈ GW := gm_1 (gk_spec (k := 193) (by decide +kernel)) rfl
theorem gw_194 : (.code y_Tx_init b_Tx_init 1 none : Cond) ∈ GW := gm_1 (List.mem_of_getElem? (i := 194) rfl) rfl
theorem gw_195 : (.methodLink "MountainFarms$SlopeText" 3 y_Ob_init : Cond) ∈ GW := gm_1 (gk_spec (k := 195) (by decide +kernel)) rfl
theorem gw_196 : (.classLink "MountainFarms$SlopeText" 9 "MountainFarms$Tape" : Cond) ∈ GW := gm_1 (gk_spec (k := 196) (by decide +kernel)) rfl
theorem gw_197 : (.instantiable "MountainFarms$Tape" 6 : Cond) ∈ GW := gm_1 (gk_spec (k := 197) (by decide +kernel)) rfl
theorem gw_199 : (.instanceMethod y_Ta_init : Cond) ∈ GW := gm_1 (gk_spec (k := 199) (by decide +kernel)) rfl
theorem gw_200 : (.code y_Ta_init b_Ta_init 1 none : Cond) ∈ GW := gm_1 (List.mem_of_getElem? (i := 200) rfl) rfl
theorem gw_201 : (.methodLink "MountainFarms$Tape" 3 y_Ob_init : Cond) ∈ GW := gm_1 (gk_spec (k := 201) (by decide +kernel)) rfl
theorem gw_202 : (.fieldLink "MountainFarms$Tape" 9 "MountainFarms$Tape" "bytes" "[I" : Cond) ∈ GW := gm_1 (gk_spec (k := 202) (by decide +kernel)) rfl
theorem gw_203 : (.fieldLink "MountainFarms$Tape" 15 "MountainFarms$Tape" "size" "I" : Cond) ∈ GW := gm_1 (gk_spec (k := 203) (by decide +kernel)) rfl
theorem gw_204 : (.fieldLink "MountainFarms" 288 "MountainFarms$Tape" "size" "I" : Cond) ∈ GW := gm_1 (gk_spec (k := 204) (by decide +kernel)) rfl
theorem gw_205 : (.fieldLink "MountainFarms$Tape" 19 "MountainFarms$Tape" "start" "I" : Cond) ∈ GW := gm_1 (gk_spec (k := 205) (by decide +kernel)) rfl
theorem gw_206 : (.fieldLink "MountainFarms$SlopeText" 35 "MountainFarms$Tape" "start" "I" : Cond) ∈ GW := gm_1 (gk_spec (k := 206) (by decide +kernel)) rfl
theorem gw_207 : (.fieldLink "MountainFarms$Tape" 22 "MountainFarms$Tape" "end" "I" : Cond) ∈ GW := gm_1 (gk_spec (k := 207) (by decide +kernel)) rfl
theorem gw_208 : (.fieldLink "MountainFarms$Tape" 25 "MountainFarms$Tape" "sort" "I" : Cond) ∈ GW := gm_1 (gk_spec (k := 208) (by decide +kernel)) rfl
theorem gw_209 : (.fieldLink "MountainFarms$Tape" 28 "MountainFarms$Tape" "value" "I" : Cond) ∈ GW := gm_1 (gk_spec (k := 209) (by decide +kernel)) rfl
theorem gw_223 : (.fieldLink "MountainFarms$SlopeText" 12 "MountainFarms$SlopeText" "tape" "LMountainFarms$Tape;" : Cond) ∈ GW := gm_1 (gk_spec (k := 223) (by decide +kernel)) rfl
theorem gw_224 : (.fieldLink "MountainFarms" 284 "MountainFarms$SlopeText" "tape" "LMountainFarms$Tape;" : Cond) ∈ GW := gm_1 (gk_spec (k := 224) (by decide +kernel)) rfl
theorem gw_228 : (.classLink "MountainFarms" 36 "MountainFarms$Sheet" : Cond) ∈ GW := gm_1 (gk_spec (k := 228) (by decide +kernel)) rfl
theorem gw_230 : (.instantiable "MountainFarms$Sheet" 3 : Cond) ∈ GW := gm_1 (gk_spec (k := 230) (by decide +kernel)) rfl
theorem gw_232 : (.instanceMethod y_Sh_init : Cond) ∈ GW := gm_1 (gk_spec (k := 232) (by decide +kernel)) rfl
theorem gw_233 : (.code y_Sh_init b_Sh_init 1 none : Cond) ∈ GW := gm_1 (List.mem_of_getElem? (i := 233) rfl) rfl
theorem gw_234 : (.methodLink "MountainFarms$Sheet" 3 y_Ob_init : Cond) ∈ GW := gm_1 (gk_spec (k := 234) (by decide +kernel)) rfl
theorem gw_235 : (.fieldLink "MountainFarms$Sheet" 9 "MountainFarms$Sheet" "numbers" "[J" : Cond) ∈ GW := gm_1 (gk_spec (k := 235) (by decide +kernel)) rfl
theorem gw_236 : (.fieldLink "MountainFarms" 311 "MountainFarms$Sheet" "numbers" "[J" : Cond) ∈ GW := gm_1 (gk_spec (k := 236) (by decide +kernel)) rfl
theorem gw_237 : (.fieldLink "MountainFarms$Sheet" 15 "MountainFarms$Sheet" "bits" "I" : Cond) ∈ GW := gm_1 (gk_spec (k := 237) (by decide +kernel)) rfl
theorem gw_238 : (.fieldLink "MountainFarms" 318 "MountainFarms$Sheet" "bits" "I" : Cond) ∈ GW := gm_1 (gk_spec (k := 238) (by decide +kernel)) rfl
theorem gw_239 : (.fieldLink "MountainFarms$Sheet" 19 "MountainFarms$Sheet" "size" "I" : Cond) ∈ GW := gm_1 (gk_spec (k := 239) (by decide +kernel)) rfl
theorem gw_240 : (.fieldLink "MountainFarms" 307 "MountainFarms$Sheet" "size" "I" : Cond) ∈ GW := gm_2 (gk_spec (k := 0) (by decide +kernel)) rfl
theorem gw_248 : (.fieldLink "MountainFarms" 10 "MountainFarms" "here" "LMountainFarms$Slope;" : Cond) ∈ GW := gm_2 (gk_spec (k := 8) (by decide +kernel)) rfl
theorem gw_249 : (.fieldLink "MountainFarms" 16 "MountainFarms" "kept" "LMountainFarms$Slope;" : Cond) ∈ GW := gm_2 (gk_spec (k := 9) (by decide +kernel)) rfl
theorem gw_250 : (.fieldLink "MountainFarms" 19 "MountainFarms" "trial" "LMountainFarms$Slope;" : Cond) ∈ GW := gm_2 (gk_spec (k := 10) (by decide +kernel)) rfl
theorem gw_251 : (.fieldLink "MountainFarms" 25 "MountainFarms" "parts" "LMountainFarms$Parts;" : Cond) ∈ GW := gm_2 (gk_spec (k := 11) (by decide +kernel)) rfl
theorem gw_252 : (.fieldLink "MountainFarms" 32 "MountainFarms" "text" "LMountainFarms$SlopeText;" : Cond) ∈ GW := gm_2 (gk_spec (k := 12) (by decide +kernel)) rfl
theorem gw_253 : (.fieldLink "MountainFarms" 39 "MountainFarms" "sheets" "[LMountainFarms$Sheet;" : Cond) ∈ GW := gm_2 (gk_spec (k := 13) (by decide +kernel)) rfl
theorem gw_254 : (.fieldLink "MountainFarms" 43 "MountainFarms" "findings" "[I" : Cond) ∈ GW := gm_2 (gk_spec (k := 14) (by decide +kernel)) rfl
theorem gw_255 : (.fieldLink "MountainFarms" 47 "MountainFarms" "isKept" "Z" : Cond) ∈ GW := gm_2 (gk_spec (k := 15) (by decide +kernel)) rfl
theorem gw_273 : (.methodLink "MountainFarmsLaw" 13 y_X_set : Cond) ∈ GW := gm_2 (gk_spec (k := 33) (by decide +kernel)) rfl
theorem gw_274 : (.instanceMethod y_X_set : Cond) ∈ GW := gm_2 (gk_spec (k := 34) (by decide +kernel)) rfl
theorem gw_275 : (.selects "MountainFarms" y_X_set y_X_set : Cond) ∈ GW := gm_2 (gk_spec (k := 35) (by decide +kernel)) rfl
theorem gw_276 : (.code y_X_set b_X_set 6 (some .int) : Cond) ∈ GW := gm_2 (List.mem_of_getElem? (i := 36) rfl) rfl
theorem gw_277 : (.methodLink "MountainFarms" 51 y_X_isCell : Cond) ∈ GW := gm_2 (gk_spec (k := 37) (by decide +kernel)) rfl
theorem gw_278 : (.static y_X_isCell : Cond) ∈ GW := gm_2 (gk_spec (k := 38) (by decide +kernel)) rfl
theorem gw_279 : (.code y_X_isCell b_X_isCell 1 (some .boolean) : Cond) ∈ GW := gm_2 (List.mem_of_getElem? (i := 39) rfl) rfl
theorem gw_280 : (.methodLink "MountainFarms" 55 y_X_isWithin : Cond) ∈ GW := gm_2 (gk_spec (k := 40) (by decide +kernel)) rfl
theorem gw_281 : (.static y_X_isWithin : Cond) ∈ GW := gm_2 (gk_spec (k := 41) (by decide +kernel)) rfl
theorem gw_282 : (.code y_X_isWithin b_X_isWithin 3 (some .boolean) : Cond) ∈ GW := gm_2 (List.mem_of_getElem? (i := 42) rfl) rfl
theorem gw_283 : (.methodLink "MountainFarms" 59 y_X_finding : Cond) ∈ GW := gm_2 (gk_spec (k := 43) (by decide +kernel)) rfl
theorem gw_285 : (.instanceMethod y_X_finding : Cond) ∈ GW := gm_2 (gk_spec (k := 45) (by decide +kernel)) rfl
theorem gw_286 : (.code y_X_finding b_X_finding 2 (some .int) : Cond) ∈ GW := gm_2 (List.mem_of_getElem? (i := 46) rfl) rfl
theorem gw_287 : (.constant "MountainFarms" 338 (-1000000001) : Cond) ∈ GW := gm_2 (gk_spec (k := 47) (by decide +kernel)) rfl
theorem gw_288 : (.methodLink "MountainFarmsLaw" 18 y_X_cellOf : Cond) ∈ GW := gm_2 (gk_spec (k := 48) (by decide +kernel)) rfl
theorem gw_289 : (.instanceMethod y_X_cellOf : Cond) ∈ GW := gm_2 (gk_spec (k := 49) (by decide +kernel)) rfl
theorem gw_290 : (.selects "MountainFarms" y_X_cellOf y_X_cellOf : Cond) ∈ GW := gm_2 (gk_spec (k := 50) (by decide +kernel)) rfl
theorem gw_291 : (.code y_X_cellOf b_X_cellOf 3 (some .int) : Cond) ∈ GW := gm_2 (List.mem_of_getElem? (i := 51) rfl) rfl
theorem gw_292 : (.methodLink "MountainFarms" 79 y_Fa_farmOn : Cond) ∈ GW := gm_2 (gk_spec (k := 52) (by decide +kernel)) rfl
theorem gw_293 : (.instanceMethod y_Fa_farmOn : Cond) ∈ GW := gm_2 (gk_spec (k := 53) (by decide +kernel)) rfl
theorem gw_294 : (.selects "MountainFarms$Farms" y_Fa_farmOn y_Fa_farmOn : Cond) ∈ GW := gm_2 (gk_spec (k := 54) (by decide +kernel)) rfl
theorem gw_295 : (.code y_Fa_farmOn b_Fa_farmOn 3 (some .int) : Cond) ∈ GW := gm_2 (List.mem_of_getElem? (i := 55) rfl) rfl
theorem gw_296 : (.methodLink "MountainFarmsLaw" 23 y_X_vent : Cond) ∈ GW := gm_2 (gk_spec (k := 56) (by decide +kernel)) rfl
theorem gw_297 : (.instanceMethod y_X_vent : Cond) ∈ GW := gm_2 (gk_spec (k := 57) (by decide +kernel)) rfl
theorem gw_298 : (.selects "MountainFarms" y_X_vent y_X_vent : Cond) ∈ GW := gm_2 (gk_spec (k := 58) (by decide +kernel)) rfl
theorem gw_299 : (.code y_X_vent b_X_vent 3 (some .int) : Cond) ∈ GW := gm_2 (List.mem_of_getElem? (i := 59) rfl) rfl
theorem gw_300 : (.methodLink "MountainFarmsLaw" 28 y_X_wall : Cond) ∈ GW := gm_2 (gk_spec (k := 60) (by decide +kernel)) rfl
theorem gw_301 : (.instanceMethod y_X_wall : Cond) ∈ GW := gm_2 (gk_spec (k := 61) (by decide +kernel)) rfl
theorem gw_302 : (.selects "MountainFarms" y_X_wall y_X_wall : Cond) ∈ GW := gm_2 (gk_spec (k := 62) (by decide +kernel)) rfl
theorem gw_303 : (.code y_X_wall b_X_wall 5 (some .int) : Cond) ∈ GW := gm_2 (List.mem_of_getElem? (i := 63) rfl) rfl
theorem gw_304 : (.methodLink "MountainFarms" 91 y_X_wayTo : Cond) ∈ GW := gm_2 (gk_spec (k := 64) (by decide +kernel)) rfl
theorem gw_305 : (.static y_X_wayTo : Cond) ∈ GW := gm_2 (gk_spec (k := 65) (by decide +kernel)) rfl
theorem gw_306 : (.code y_X_wayTo b_X_wayTo 3 (some .int) : Cond) ∈ GW := gm_2 (List.mem_of_getElem? (i := 66) rfl) rfl
theorem gw_307 : (.methodLink "MountainFarms" 235 y_X_beside : Cond) ∈ GW := gm_2 (gk_spec (k := 67) (by decide +kernel)) rfl
theorem gw_308 : (.static y_X_beside : Cond) ∈ GW := gm_2 (gk_spec (k := 68) (by decide +kernel)) rfl
theorem gw_309 : (.code y_X_beside b_X_beside 4 (some .int) : Cond) ∈ GW := gm_2 (List.mem_of_getElem? (i := 69) rfl) rfl
theorem gw_310 : (.methodLink "MountainFarms" 95 y_Gr_isWalled : Cond) ∈ GW := gm_2 (gk_spec (k := 70) (by decide +kernel)) rfl
theorem gw_311 : (.instanceMethod y_Gr_isWalled : Cond) ∈ GW := gm_2 (gk_spec (k := 71) (by decide +kernel)) rfl
theorem gw_312 : (.selects "MountainFarms$Ground" y_Gr_isWalled y_Gr_isWalled : Cond) ∈ GW := gm_2 (gk_spec (k := 72) (by decide +kernel)) rfl
theorem gw_313 : (.code y_Gr_isWalled b_Gr_isWalled 3 (some .boolean) : Cond) ∈ GW := gm_2 (List.mem_of_getElem? (i := 73) rfl) rfl
theorem gw_314 : (.methodLink "MountainFarms" 99 y_Gr_putWall : Cond) ∈ GW := gm_2 (gk_spec (k := 74) (by decide +kernel)) rfl
theorem gw_315 : (.instanceMethod y_Gr_putWall : Cond) ∈ GW := gm_2 (gk_spec (k := 75) (by decide +kernel)) rfl
theorem gw_316 : (.selects "MountainFarms$Ground" y_Gr_putWall y_Gr_putWall : Cond) ∈ GW := gm_2 (gk_spec (k := 76) (by decide +kernel)) rfl
theorem gw_317 : (.code y_Gr_putWall b_Gr_putWall 7 none : Cond) ∈ GW := gm_2 (List.mem_of_getElem? (i := 77) rfl) rfl
theorem gw_319 : (.methodLink "MountainFarmsLaw" 33 y_X_farm : Cond) ∈ GW := gm_2 (gk_spec (k := 79) (by decide +kernel)) rfl
theorem gw_320 : (.instanceMethod y_X_farm : Cond) ∈ GW := gm_2 (gk_spec (k := 80) (by decide +kernel)) rfl
theorem gw_321 : (.selects "MountainFarms" y_X_farm y_X_farm : Cond) ∈ GW := gm_2 (gk_spec (k := 81) (by decide +kernel)) rfl
theorem gw_322 : (.code y_X_farm b_X_farm 4 (some .int) : Cond) ∈ GW := gm_2 (List.mem_of_getElem? (i := 82) rfl) rfl
theorem gw_323 : (.methodLink "MountainFarms" 103 y_X_isKind : Cond) ∈ GW := gm_2 (gk_spec (k := 83) (by decide +kernel)) rfl
theorem gw_324 : (.static y_X_isKind : Cond) ∈ GW := gm_2 (gk_spec (k := 84) (by decide +kernel)) rfl
theorem gw_325 : (.code y_X_isKind b_X_isKind 1 (some .boolean) : Cond) ∈ GW := gm_2 (List.mem_of_getElem? (i := 85) rfl) rfl
theorem gw_326 : (.methodLink "MountainFarms" 106 y_X_isOwner : Cond) ∈ GW := gm_2 (gk_spec (k := 86) (by decide +kernel)) rfl
theorem gw_327 : (.static y_X_isOwner : Cond) ∈ GW := gm_2 (gk_spec (k := 87) (by decide +kernel)) rfl
theorem gw_328 : (.code y_X_isOwner b_X_isOwner 1 (some .boolean) : Cond) ∈ GW := gm_2 (List.mem_of_getElem? (i := 88) rfl) rfl
theorem gw_329 : (.methodLink "MountainFarms" 109 y_Fa_isFull : Cond) ∈ GW := gm_2 (gk_spec (k := 89) (by decide +kernel)) rfl
theorem gw_330 : (.instanceMethod y_Fa_isFull : Cond) ∈ GW := gm_2 (gk_spec (k := 90) (by decide +kernel)) rfl
theorem gw_331 : (.selects "MountainFarms$Farms" y_Fa_isFull y_Fa_isFull : Cond) ∈ GW := gm_2 (gk_spec (k := 91) (by decide +kernel)) rfl
theorem gw_332 : (.code y_Fa_isFull b_Fa_isFull 1 (some .boolean) : Cond) ∈ GW := gm_2 (List.mem_of_getElem? (i := 92) rfl) rfl
theorem gw_333 : (.methodLink "MountainFarms" 113 y_Fa_add : Cond) ∈ GW := gm_2 (gk_spec (k := 93) (by decide +kernel)) rfl
theorem gw_334 : (.instanceMethod y_Fa_add : Cond) ∈ GW := gm_2 (gk_spec (k := 94) (by decide +kernel)) rfl
theorem gw_335 : (.selects "MountainFarms$Farms" y_Fa_add y_Fa_add : Cond) ∈ GW := gm_2 (gk_spec (k := 95) (by decide +kernel)) rfl
theorem gw_336 : (.code y_Fa_add b_Fa_add 4 (some .int) : Cond) ∈ GW := gm_2 (List.mem_of_getElem? (i := 96) rfl) rfl
theorem gw_337 : (.methodLink "MountainFarms$Farms" 37 y_Fa_isFull : Cond) ∈ GW := gm_2 (gk_spec (k := 97) (by decide +kernel)) rfl
theorem gw_338 : (.methodLink "MountainFarmsLaw" 37 y_X_of : Cond) ∈ GW := gm_2 (gk_spec (k := 98) (by decide +kernel)) rfl
theorem gw_339 : (.instanceMethod y_X_of : Cond) ∈ GW := gm_2 (gk_spec (k := 99) (by decide +kernel)) rfl
theorem gw_340 : (.selects "MountainFarms" y_X_of y_X_of : Cond) ∈ GW := gm_2 (gk_spec (k := 100) (by decide +kernel)) rfl
theorem gw_341 : (.code y_X_of b_X_of 3 (some .int) : Cond) ∈ GW := gm_2 (List.mem_of_getElem? (i := 101) rfl) rfl
theorem gw_342 : (.methodLink "MountainFarms" 117 y_Fa_has : Cond) ∈ GW := gm_2 (gk_spec (k := 102) (by decide +kernel)) rfl
theorem gw_343 : (.instanceMethod y_Fa_has : Cond) ∈ GW := gm_2 (gk_spec (k := 103) (by decide +kernel)) rfl
theorem gw_344 : (.selects "MountainFarms$Farms" y_Fa_has y_Fa_has : Cond) ∈ GW := gm_2 (gk_spec (k := 104) (by decide +kernel)) rfl
theorem gw_345 : (.code y_Fa_has b_Fa_has 2 (some .boolean) : Cond) ∈ GW := gm_2 (List.mem_of_getElem? (i := 105) rfl) rfl
theorem gw_346 : (.methodLink "MountainFarms" 132 y_Fa_isBurnt : Cond) ∈ GW := gm_2 (gk_spec (k := 106) (by decide +kernel)) rfl
theorem gw_347 : (.instanceMethod y_Fa_isBurnt : Cond) ∈ GW := gm_2 (gk_spec (k := 107) (by decide +kernel)) rfl
theorem gw_348 : (.selects "MountainFarms$Farms" y_Fa_isBurnt y_Fa_isBurnt : Cond) ∈ GW := gm_2 (gk_spec (k := 108) (by decide +kernel)) rfl
theorem gw_349 : (.code y_Fa_isBurnt b_Fa_isBurnt 2 (some .boolean) : Cond) ∈ GW := gm_2 (List.mem_of_getElem? (i := 109) rfl) rfl
theorem gw_350 : (.methodLink "MountainFarms" 135 y_Fa_bearsOn : Cond) ∈ GW := gm_2 (gk_spec (k := 110) (by decide +kernel)) rfl
theorem gw_351 : (.instanceMethod y_Fa_bearsOn : Cond) ∈ GW := gm_2 (gk_spec (k := 111) (by decide +kernel)) rfl
theorem gw_352 : (.selects "MountainFarms$Farms" y_Fa_bearsOn y_Fa_bearsOn : Cond) ∈ GW := gm_2 (gk_spec (k := 112) (by decide +kernel)) rfl
theorem gw_353 : (.code y_Fa_bearsOn b_Fa_bearsOn 3 (some .int) : Cond) ∈ GW := gm_2 (List.mem_of_getElem? (i := 113) rfl) rfl
theorem gw_354 : (.methodLink "MountainFarms$Farms" 41 y_Fa_isBurnt : Cond) ∈ GW := gm_2 (gk_spec (k := 114) (by decide +kernel)) rfl
theorem gw_355 : (.methodLink "MountainFarms$Farms" 45 y_Gr_ageOf : Cond) ∈ GW := gm_2 (gk_spec (k := 115) (by decide +kernel)) rfl
theorem gw_356 : (.instanceMethod y_Gr_ageOf : Cond) ∈ GW := gm_2 (gk_spec (k := 116) (by decide +kernel)) rfl
theorem gw_357 : (.selects "MountainFarms$Ground" y_Gr_ageOf y_Gr_ageOf : Cond) ∈ GW := gm_2 (gk_spec (k := 117) (by decide +kernel)) rfl
theorem gw_358 : (.code y_Gr_ageOf b_Gr_ageOf 2 (some .int) : Cond) ∈ GW := gm_2 (List.mem_of_getElem? (i := 118) rfl) rfl
theorem gw_361 : (.static y_X_bearing : Cond) ∈ GW := gm_2 (gk_spec (k := 121) (by decide +kernel)) rfl
theorem gw_362 : (.code y_X_bearing b_X_bearing 6 (some .int) : Cond) ∈ GW := gm_2 (List.mem_of_getElem? (i := 122) rfl) rfl
theorem gw_363 : (.methodLink "MountainFarms" 157 y_Ma_min : Cond) ∈ GW := gm_2 (gk_spec (k := 123) (by decide +kernel)) rfl
theorem gw_364 : (.static y_Ma_min : Cond) ∈ GW := gm_2 (gk_spec (k := 124) (by decide +kernel)) rfl
theorem gw_365 : (.code y_Ma_min b_Ma_min 2 (some .int) : Cond) ∈ GW := gm_2 (List.mem_of_getElem? (i := 125) rfl) rfl
theorem gw_366 : (.methodLink "MountainFarmsLaw" 41 y_X_sow : Cond) ∈ GW := gm_2 (gk_spec (k := 126) (by decide +kernel)) rfl
theorem gw_367 : (.instanceMethod y_X_sow : Cond) ∈ GW := gm_2 (gk_spec (k := 127) (by decide +kernel)) rfl
theorem gw_368 : (.selects "MountainFarms" y_X_sow y_X_sow : Cond) ∈ GW := gm_2 (gk_spec (k := 128) (by decide +kernel)) rfl
theorem gw_369 : (.code y_X_sow b_X_sow 4 (some .int) : Cond) ∈ GW := gm_2 (List.mem_of_getElem? (i := 129) rfl) rfl
theorem gw_370 : (.methodLink "MountainFarmsLaw" 45 y_X_as : Cond) ∈ GW := gm_2 (gk_spec (k := 130) (by decide +kernel)) rfl
theorem gw_371 : (.instanceMethod y_X_as : Cond) ∈ GW := gm_2 (gk_spec (k := 131) (by decide +kernel)) rfl
theorem gw_372 : (.selects "MountainFarms" y_X_as y_X_as : Cond) ∈ GW := gm_2 (gk_spec (k := 132) (by decide +kernel)) rfl
theorem gw_373 : (.code y_X_as b_X_as 3 (some .int) : Cond) ∈ GW := gm_2 (List.mem_of_getElem? (i := 133) rfl) rfl
theorem gw_374 : (.methodLink "MountainFarms" 139 y_X_isOfKind : Cond) ∈ GW := gm_2 (gk_spec (k := 134) (by decide +kernel)) rfl
theorem gw_375 : (.static y_X_isOfKind : Cond) ∈ GW := gm_2 (gk_spec (k := 135) (by decide +kernel)) rfl
theorem gw_376 : (.code y_X_isOfKind b_X_isOfKind 4 (some .boolean) : Cond) ∈ GW := gm_2 (List.mem_of_getElem? (i := 136) rfl) rfl
theorem gw_377 : (.fieldLink "MountainFarms" 343 "MountainFarms" "UNDER" "[I" : Cond) ∈ GW := gm_2 (gk_spec (k := 137) (by decide +kernel)) rfl
theorem gw_379 : (.methodLink "MountainFarmsLaw" 49 y_X_build : Cond) ∈ GW := gm_2 (gk_spec (k := 139) (by decide +kernel)) rfl
theorem gw_380 : (.instanceMethod y_X_build : Cond) ∈ GW := gm_2 (gk_spec (k := 140) (by decide +kernel)) rfl
theorem gw_381 : (.selects "MountainFarms" y_X_build y_X_build : Cond) ∈ GW := gm_2 (gk_spec (k := 141) (by decide +kernel)) rfl
theorem gw_382 : (.code y_X_build b_X_build 2 (some .int) : Cond) ∈ GW := gm_2 (List.mem_of_getElem? (i := 142) rfl) rfl
theorem gw_383 : (.methodLink "MountainFarmsLaw" 53 y_X_coins : Cond) ∈ GW := gm_2 (gk_spec (k := 143) (by decide +kernel)) rfl
theorem gw_384 : (.instanceMethod y_X_coins : Cond) ∈ GW := gm_2 (gk_spec (k := 144) (by decide +kernel)) rfl
theorem gw_385 : (.selects "MountainFarms" y_X_coins y_X_coins : Cond) ∈ GW := gm_2 (gk_spec (k := 145) (by decide +kernel)) rfl
theorem gw_386 : (.code y_X_coins b_X_coins 2 (some .int) : Cond) ∈ GW := gm_2 (List.mem_of_getElem? (i := 146) rfl) rfl
theorem gw_387 : (.methodLink "MountainFarms" 145 y_Fa_coinsOf : Cond) ∈ GW := gm_2 (gk_spec (k := 147) (by decide +kernel)) rfl
theorem gw_388 : (.instanceMethod y_Fa_coinsOf : Cond) ∈ GW := gm_2 (gk_spec (k := 148) (by decide +kernel)) rfl
theorem gw_389 : (.selects "MountainFarms$Farms" y_Fa_coinsOf y_Fa_coinsOf : Cond) ∈ GW := gm_2 (gk_spec (k := 149) (by decide +kernel)) rfl
theorem gw_390 : (.code y_Fa_coinsOf b_Fa_coinsOf 4 (some .int) : Cond) ∈ GW := gm_2 (List.mem_of_getElem? (i := 150) rfl) rfl
theorem gw_391 : (.methodLink "MountainFarmsLaw" 57 y_X_best : Cond) ∈ GW := gm_2 (gk_spec (k := 151) (by decide +kernel)) rfl
theorem gw_392 : (.instanceMethod y_X_best : Cond) ∈ GW := gm_2 (gk_spec (k := 152) (by decide +kernel)) rfl
theorem gw_393 : (.selects "MountainFarms" y_X_best y_X_best : Cond) ∈ GW := gm_2 (gk_spec (k := 153) (by decide +kernel)) rfl
theorem gw_394 : (.code y_X_best b_X_best 5 (some .int) : Cond) ∈ GW := gm_2 (List.mem_of_getElem? (i := 154) rfl) rfl
theorem gw_395 : (.methodLink "MountainFarms" 148 y_Gr_ageOf : Cond) ∈ GW := gm_2 (gk_spec (k := 155) (by decide +kernel)) rfl
theorem gw_396 : (.methodLink "MountainFarms" 154 y_X_bearing : Cond) ∈ GW := gm_2 (gk_spec (k := 156) (by decide +kernel)) rfl
theorem gw_397 : (.methodLink "MountainFarmsLaw" 61 y_X_harvest : Cond) ∈ GW := gm_2 (gk_spec (k := 157) (by decide +kernel)) rfl
theorem gw_398 : (.instanceMethod y_X_harvest : Cond) ∈ GW := gm_2 (gk_spec (k := 158) (by decide +kernel)) rfl
theorem gw_399 : (.selects "MountainFarms" y_X_harvest y_X_harvest : Cond) ∈ GW := gm_2 (gk_spec (k := 159) (by decide +kernel)) rfl
theorem gw_400 : (.code y_X_harvest b_X_harvest 8 (some .int) : Cond) ∈ GW := gm_2 (List.mem_of_getElem? (i := 160) rfl) rfl
theorem gw_401 : (.methodLink "MountainFarmsLaw" 65 y_X_tenths : Cond) ∈ GW := gm_2 (gk_spec (k := 161) (by decide +kernel)) rfl
theorem gw_402 : (.instanceMethod y_X_tenths : Cond) ∈ GW := gm_2 (gk_spec (k := 162) (by decide +kernel)) rfl
theorem gw_403 : (.selects "MountainFarms" y_X_tenths y_X_tenths : Cond) ∈ GW := gm_2 (gk_spec (k := 163) (by decide +kernel)) rfl
theorem gw_404 : (.code y_X_tenths b_X_tenths 7 (some .int) : Cond) ∈ GW := gm_2 (List.mem_of_getElem? (i := 164) rfl) rfl
theorem gw_405 : (.methodLink "MountainFarms" 162 y_X_isState : Cond) ∈ GW := gm_2 (gk_spec (k := 165) (by decide +kernel)) rfl
theorem gw_406 : (.static y_X_isState : Cond) ∈ GW := gm_2 (gk_spec (k := 166) (by decide +kernel)) rfl
theorem gw_407 : (.code y_X_isState b_X_isState 1 (some .boolean) : Cond) ∈ GW := gm_2 (List.mem_of_getElem? (i := 167) rfl) rfl
theorem gw_408 : (.methodLink "MountainFarms" 169 y_Mo_tenthAt : Cond) ∈ GW := gm_2 (gk_spec (k := 168) (by decide +kernel)) rfl
theorem gw_409 : (.instanceMethod y_Mo_tenthAt : Cond) ∈ GW := gm_2 (gk_spec (k := 169) (by decide +kernel)) rfl
theorem gw_410 : (.selects "MountainFarms$Mountain" y_Mo_tenthAt y_Mo_tenthAt : Cond) ∈ GW := gm_2 (gk_spec (k := 170) (by decide +kernel)) rfl
theorem gw_411 : (.code y_Mo_tenthAt b_Mo_tenthAt 6 (some .int) : Cond) ∈ GW := gm_2 (List.mem_of_getElem? (i := 171) rfl) rfl
theorem gw_413 : (.methodLink "MountainFarms" 174 y_Mo_putTenth : Cond) ∈ GW := gm_2 (gk_spec (k := 173) (by decide +kernel)) rfl
theorem gw_414 : (.instanceMethod y_Mo_putTenth : Cond) ∈ GW := gm_2 (gk_spec (k := 174) (by decide +kernel)) rfl
theorem gw_415 : (.selects "MountainFarms$Mountain" y_Mo_putTenth y_Mo_putTenth : Cond) ∈ GW := gm_2 (gk_spec (k := 175) (by decide +kernel)) rfl
theorem gw_416 : (.code y_Mo_putTenth b_Mo_putTenth 7 none : Cond) ∈ GW := gm_2 (List.mem_of_getElem? (i := 176) rfl) rfl
theorem gw_417 : (.methodLink "MountainFarmsLaw" 70 y_X_tenth : Cond) ∈ GW := gm_2 (gk_spec (k := 177) (by decide +kernel)) rfl
theorem gw_418 : (.instanceMethod y_X_tenth : Cond) ∈ GW := gm_2 (gk_spec (k := 178) (by decide +kernel)) rfl
theorem gw_419 : (.selects "MountainFarms" y_X_tenth y_X_tenth : Cond) ∈ GW := gm_2 (gk_spec (k := 179) (by decide +kernel)) rfl
theorem gw_420 : (.code y_X_tenth b_X_tenth 4 (some .int) : Cond) ∈ GW := gm_2 (List.mem_of_getElem? (i := 180) rfl) rfl
theorem gw_421 : (.methodLink "MountainFarmsLaw" 74 y_X_sees : Cond) ∈ GW := gm_2 (gk_spec (k := 181) (by decide +kernel)) rfl
theorem gw_422 : (.instanceMethod y_X_sees : Cond) ∈ GW := gm_2 (gk_spec (k := 182) (by decide +kernel)) rfl
theorem gw_423 : (.selects "MountainFarms" y_X_sees y_X_sees : Cond) ∈ GW := gm_2 (gk_spec (k := 183) (by decide +kernel)) rfl
theorem gw_424 : (.code y_X_sees b_X_sees 2 (some .int) : Cond) ∈ GW := gm_2 (List.mem_of_getElem? (i := 184) rfl) rfl
theorem gw_425 : (.methodLink "MountainFarms" 178 y_X_isSign : Cond) ∈ GW := gm_2 (gk_spec (k := 185) (by decide +kernel)) rfl
theorem gw_426 : (.static y_X_isSign : Cond) ∈ GW := gm_2 (gk_spec (k := 186) (by decide +kernel)) rfl
theorem gw_427 : (.code y_X_isSign b_X_isSign 1 (some .boolean) : Cond) ∈ GW := gm_2 (List.mem_of_getElem? (i := 187) rfl) rfl
theorem gw_428 : (.methodLink "MountainFarms" 181 y_Mo_isDiaryFull : Cond) ∈ GW := gm_2 (gk_spec (k := 188) (by decide +kernel)) rfl
theorem gw_429 : (.instanceMethod y_Mo_isDiaryFull : Cond) ∈ GW := gm_2 (gk_spec (k := 189) (by decide +kernel)) rfl
theorem gw_430 : (.selects "MountainFarms$Mountain" y_Mo_isDiaryFull y_Mo_isDiaryFull : Cond) ∈ GW := gm_2 (gk_spec (k := 190) (by decide +kernel)) rfl
theorem gw_431 : (.code y_Mo_isDiaryFull b_Mo_isDiaryFull 1 (some .boolean) : Cond) ∈ GW := gm_2 (List.mem_of_getElem? (i := 191) rfl) rfl
theorem gw_432 : (.methodLink "MountainFarms" 184 y_Mo_addSign : Cond) ∈ GW := gm_2 (gk_spec (k := 192) (by decide +kernel)) rfl
theorem gw_433 : (.instanceMethod y_Mo_addSign : Cond) ∈ GW := gm_2 (gk_spec (k := 193) (by decide +kernel)) rfl
theorem gw_434 : (.selects "MountainFarms$Mountain" y_Mo_addSign y_Mo_addSign : Cond) ∈ GW := gm_2 (gk_spec (k := 194) (by decide +kernel)) rfl
theorem gw_435 : (.code y_Mo_addSign b_Mo_addSign 2 none : Cond) ∈ GW := gm_2 (List.mem_of_getElem? (i := 195) rfl) rfl
theorem gw_436 : (.methodLink "MountainFarms$Mountain" 41 y_Mo_isDiaryFull : Cond) ∈ GW := gm_2 (gk_spec (k := 196) (by decide +kernel)) rfl
theorem gw_437 : (.methodLink "MountainFarmsLaw" 78 y_X_burn : Cond) ∈ GW := gm_2 (gk_spec (k := 197) (by decide +kernel)) rfl
theorem gw_438 : (.instanceMethod y_X_burn : Cond) ∈ GW := gm_2 (gk_spec (k := 198) (by decide +kernel)) rfl
theorem gw_439 : (.selects "MountainFarms" y_X_burn y_X_burn : Cond) ∈ GW := gm_2 (gk_spec (k := 199) (by decide +kernel)) rfl
theorem gw_440 : (.code y_X_burn b_X_burn 2 (some .int) : Cond) ∈ GW := gm_2 (List.mem_of_getElem? (i := 200) rfl) rfl
theorem gw_441 : (.methodLink "MountainFarmsLaw" 83 y_X_weight : Cond) ∈ GW := gm_2 (gk_spec (k := 201) (by decide +kernel)) rfl
theorem gw_442 : (.instanceMethod y_X_weight : Cond) ∈ GW := gm_2 (gk_spec (k := 202) (by decide +kernel)) rfl
theorem gw_443 : (.selects "MountainFarms" y_X_weight y_X_weight : Cond) ∈ GW := gm_2 (gk_spec (k := 203) (by decide +kernel)) rfl
theorem gw_444 : (.code y_X_weight b_X_weight 2 (some .long) : Cond) ∈ GW := gm_2 (List.mem_of_getElem? (i := 204) rfl) rfl
theorem gw_445 : (.methodLink "MountainFarms" 191 y_Pa_weigh : Cond) ∈ GW := gm_2 (gk_spec (k := 205) (by decide +kernel)) rfl
theorem gw_446 : (.instanceMethod y_Pa_weigh : Cond) ∈ GW := gm_2 (gk_spec (k := 206) (by decide +kernel)) rfl
theorem gw_447 : (.selects "MountainFarms$Parts" y_Pa_weigh y_Pa_weigh : Cond) ∈ GW := gm_2 (gk_spec (k := 207) (by decide +kernel)) rfl
theorem gw_448 : (.code y_Pa_weigh b_Pa_weigh 3 none : Cond) ∈ GW := gm_2 (List.mem_of_getElem? (i := 208) rfl) rfl
theorem gw_449 : (.constantLong "MountainFarms$Parts" 18 10 : Cond) ∈ GW := gm_2 (gk_spec (k := 209) (by decide +kernel)) rfl
theorem gw_450 : (.methodLink "MountainFarms$Parts" 30 y_Pa_see : Cond) ∈ GW := gm_2 (gk_spec (k := 210) (by decide +kernel)) rfl
theorem gw_451 : (.instanceMethod y_Pa_see : Cond) ∈ GW := gm_2 (gk_spec (k := 211) (by decide +kernel)) rfl
theorem gw_452 : (.selects "MountainFarms$Parts" y_Pa_see y_Pa_see : Cond) ∈ GW := gm_2 (gk_spec (k := 212) (by decide +kernel)) rfl
theorem gw_453 : (.code y_Pa_see b_Pa_see 5 none : Cond) ∈ GW := gm_2 (List.mem_of_getElem? (i := 213) rfl) rfl
theorem gw_454 : (.methodLink "MountainFarms$Parts" 34 y_Mo_tenthAt : Cond) ∈ GW := gm_2 (gk_spec (k := 214) (by decide +kernel)) rfl
theorem gw_455 : (.methodLink "MountainFarms" 195 y_Pa_all : Cond) ∈ GW := gm_2 (gk_spec (k := 215) (by decide +kernel)) rfl
theorem gw_456 : (.instanceMethod y_Pa_all : Cond) ∈ GW := gm_2 (gk_spec (k := 216) (by decide +kernel)) rfl
theorem gw_457 : (.selects "MountainFarms$Parts" y_Pa_all y_Pa_all : Cond) ∈ GW := gm_2 (gk_spec (k := 217) (by decide +kernel)) rfl
theorem gw_458 : (.code y_Pa_all b_Pa_all 8 (some .long) : Cond) ∈ GW := gm_2 (List.mem_of_getElem? (i := 218) rfl) rfl
theorem gw_459 : (.methodLink "MountainFarmsLaw" 88 y_X_likeliest : Cond) ∈ GW := gm_2 (gk_spec (k := 219) (by decide +kernel)) rfl
theorem gw_460 : (.instanceMethod y_X_likeliest : Cond) ∈ GW := gm_2 (gk_spec (k := 220) (by decide +kernel)) rfl
theorem gw_461 : (.selects "MountainFarms" y_X_likeliest y_X_likeliest : Cond) ∈ GW := gm_2 (gk_spec (k := 221) (by decide +kernel)) rfl
theorem gw_462 : (.code y_X_likeliest b_X_likeliest 3 (some .int) : Cond) ∈ GW := gm_2 (List.mem_of_getElem? (i := 222) rfl) rfl
theorem gw_463 : (.methodLink "MountainFarmsLaw" 92 y_X_flee : Cond) ∈ GW := gm_2 (gk_spec (k := 223) (by decide +kernel)) rfl
theorem gw_464 : (.instanceMethod y_X_flee : Cond) ∈ GW := gm_2 (gk_spec (k := 224) (by decide +kernel)) rfl
theorem gw_465 : (.selects "MountainFarms" y_X_flee y_X_flee : Cond) ∈ GW := gm_2 (gk_spec (k := 225) (by decide +kernel)) rfl
theorem gw_466 : (.code y_X_flee b_X_flee 4 (some .int) : Cond) ∈ GW := gm_2 (List.mem_of_getElem? (i := 226) rfl) rfl
theorem gw_467 : (.constantLong "MountainFarms" 203 10 : Cond) ∈ GW := gm_2 (gk_spec (k := 227) (by decide +kernel)) rfl
theorem gw_468 : (.methodLink "MountainFarmsLaw" 96 y_X_dread : Cond) ∈ GW := gm_2 (gk_spec (k := 228) (by decide +kernel)) rfl
theorem gw_469 : (.instanceMethod y_X_dread : Cond) ∈ GW := gm_2 (gk_spec (k := 229) (by decide +kernel)) rfl
theorem gw_470 : (.selects "MountainFarms" y_X_dread y_X_dread : Cond) ∈ GW := gm_2 (gk_spec (k := 230) (by decide +kernel)) rfl
theorem gw_471 : (.code y_X_dread b_X_dread 9 (some .int) : Cond) ∈ GW := gm_2 (List.mem_of_getElem? (i := 231) rfl) rfl
theorem gw_472 : (.constantLong "MountainFarms" 205 (-1) : Cond) ∈ GW := gm_2 (gk_spec (k := 232) (by decide +kernel)) rfl
theorem gw_473 : (.methodLink "MountainFarms" 207 y_Pa_see : Cond) ∈ GW := gm_2 (gk_spec (k := 233) (by decide +kernel)) rfl
theorem gw_474 : (.constantLong "MountainFarms" 211 1000 : Cond) ∈ GW := gm_2 (gk_spec (k := 234) (by decide +kernel)) rfl
theorem gw_475 : (.methodLink "MountainFarmsLaw" 100 y_X_flow : Cond) ∈ GW := gm_2 (gk_spec (k := 235) (by decide +kernel)) rfl
theorem gw_476 : (.instanceMethod y_X_flow : Cond) ∈ GW := gm_2 (gk_spec (k := 236) (by decide +kernel)) rfl
theorem gw_477 : (.selects "MountainFarms" y_X_flow y_X_flow : Cond) ∈ GW := gm_2 (gk_spec (k := 237) (by decide +kernel)) rfl
theorem gw_478 : (.code y_X_flow b_X_flow 3 (some .long) : Cond) ∈ GW := gm_2 (List.mem_of_getElem? (i := 238) rfl) rfl
theorem gw_479 : (.methodLink "MountainFarms" 213 y_X_isVolume : Cond) ∈ GW := gm_2 (gk_spec (k := 239) (by decide +kernel)) rfl
theorem gw_480 : (.static y_X_isVolume : Cond) ∈ GW := gm_3 (gk_spec (k := 0) (by decide +kernel)) rfl
theorem gw_481 : (.code y_X_isVolume b_X_isVolume 1 (some .boolean) : Cond) ∈ GW := gm_3 (List.mem_of_getElem? (i := 1) rfl) rfl
theorem gw_482 : (.methodLink "MountainFarms" 216 y_Gr_become : Cond) ∈ GW := gm_3 (gk_spec (k := 2) (by decide +kernel)) rfl
theorem gw_483 : (.instanceMethod y_Gr_become : Cond) ∈ GW := gm_3 (gk_spec (k := 3) (by decide +kernel)) rfl
theorem gw_484 : (.selects "MountainFarms$Ground" y_Gr_become y_Gr_become : Cond) ∈ GW := gm_3 (gk_spec (k := 4) (by decide +kernel)) rfl
theorem gw_485 : (.code y_Gr_become b_Gr_become 2 none : Cond) ∈ GW := gm_3 (List.mem_of_getElem? (i := 5) rfl) rfl
theorem gw_486 : (.methodLink "MountainFarms$Ground" 38 (⟨"java/lang/System", "arraycopy", "(Ljava/lang/Object;ILjava/lang/Object;II)V"⟩ : MethodName) : Cond) ∈ GW := gm_3 (gk_spec (k := 6) (by decide +kernel)) rfl
theorem gw_487 : (.static (⟨"java/lang/System", "arraycopy", "(Ljava/lang/Object;ILjava/lang/Object;II)V"⟩ : MethodName) : Cond) ∈ GW := gm_3 (gk_spec (k := 7) (by decide +kernel)) rfl
theorem gw_488 : (.native (⟨"java/lang/System", "arraycopy", "(Ljava/lang/Object;ILjava/lang/Object;II)V"⟩ : MethodName) : Cond) ∈ GW := gm_3 (gk_spec (k := 8) (by decide +kernel)) rfl
theorem gw_489 : (.methodLink "MountainFarms" 220 y_Gr_lavaFrom : Cond) ∈ GW := gm_3 (gk_spec (k := 9) (by decide +kernel)) rfl
theorem gw_490 : (.instanceMethod y_Gr_lavaFrom : Cond) ∈ GW := gm_3 (gk_spec (k := 10) (by decide +kernel)) rfl
theorem gw_491 : (.selects "MountainFarms$Ground" y_Gr_lavaFrom y_Gr_lavaFrom : Cond) ∈ GW := gm_3 (gk_spec (k := 11) (by decide +kernel)) rfl
theorem gw_492 : (.code y_Gr_lavaFrom b_Gr_lavaFrom 7 (some .long) : Cond) ∈ GW := gm_3 (List.mem_of_getElem? (i := 12) rfl) rfl
theorem gw_493 : (.methodLink "MountainFarms$Ground" 56 y_Gr_lavaGoesOn : Cond) ∈ GW := gm_3 (gk_spec (k := 13) (by decide +kernel)) rfl
theorem gw_495 : (.instanceMethod y_Gr_lavaGoesOn : Cond) ∈ GW := gm_3 (gk_spec (k := 15) (by decide +kernel)) rfl
theorem gw_496 : (.code y_Gr_lavaGoesOn b_Gr_lavaGoesOn 5 (some .int) : Cond) ∈ GW := gm_3 (List.mem_of_getElem? (i := 16) rfl) rfl
theorem gw_497 : (.methodLink "MountainFarms$Ground" 62 y_Gr_isWalled : Cond) ∈ GW := gm_3 (gk_spec (k := 17) (by decide +kernel)) rfl
theorem gw_498 : (.methodLink "MountainFarms$Ground" 59 y_Ma_min : Cond) ∈ GW := gm_3 (gk_spec (k := 18) (by decide +kernel)) rfl
theorem gw_499 : (.methodLink "MountainFarmsLaw" 105 y_X_hit : Cond) ∈ GW := gm_3 (gk_spec (k := 19) (by decide +kernel)) rfl
theorem gw_500 : (.instanceMethod y_X_hit : Cond) ∈ GW := gm_3 (gk_spec (k := 20) (by decide +kernel)) rfl
theorem gw_501 : (.selects "MountainFarms" y_X_hit y_X_hit : Cond) ∈ GW := gm_3 (gk_spec (k := 21) (by decide +kernel)) rfl
theorem gw_502 : (.code y_X_hit b_X_hit 2 (some .int) : Cond) ∈ GW := gm_3 (List.mem_of_getElem? (i := 22) rfl) rfl
theorem gw_503 : (.methodLink "MountainFarms" 224 y_X_hitWith : Cond) ∈ GW := gm_3 (gk_spec (k := 23) (by decide +kernel)) rfl
theorem gw_505 : (.instanceMethod y_X_hitWith : Cond) ∈ GW := gm_3 (gk_spec (k := 25) (by decide +kernel)) rfl
theorem gw_506 : (.code y_X_hitWith b_X_hitWith 6 (some .int) : Cond) ∈ GW := gm_3 (List.mem_of_getElem? (i := 26) rfl) rfl
theorem gw_507 : (.methodLink "MountainFarms" 339 y_Fa_standingOn : Cond) ∈ GW := gm_3 (gk_spec (k := 27) (by decide +kernel)) rfl
theorem gw_508 : (.instanceMethod y_Fa_standingOn : Cond) ∈ GW := gm_3 (gk_spec (k := 28) (by decide +kernel)) rfl
theorem gw_509 : (.selects "MountainFarms$Farms" y_Fa_standingOn y_Fa_standingOn : Cond) ∈ GW := gm_3 (gk_spec (k := 29) (by decide +kernel)) rfl
theorem gw_510 : (.code y_Fa_standingOn b_Fa_standingOn 5 (some .int) : Cond) ∈ GW := gm_3 (List.mem_of_getElem? (i := 30) rfl) rfl
theorem gw_511 : (.methodLink "MountainFarmsLaw" 109 y_X_least : Cond) ∈ GW := gm_3 (gk_spec (k := 31) (by decide +kernel)) rfl
theorem gw_512 : (.instanceMethod y_X_least : Cond) ∈ GW := gm_3 (gk_spec (k := 32) (by decide +kernel)) rfl
theorem gw_513 : (.selects "MountainFarms" y_X_least y_X_least : Cond) ∈ GW := gm_3 (gk_spec (k := 33) (by decide +kernel)) rfl
theorem gw_514 : (.code y_X_least b_X_least 3 (some .int) : Cond) ∈ GW := gm_3 (List.mem_of_getElem? (i := 34) rfl) rfl
theorem gw_515 : (.methodLink "MountainFarms" 227 y_Gr_leastVolumeTo : Cond) ∈ GW := gm_3 (gk_spec (k := 35) (by decide +kernel)) rfl
theorem gw_516 : (.instanceMethod y_Gr_leastVolumeTo : Cond) ∈ GW := gm_3 (gk_spec (k := 36) (by decide +kernel)) rfl
theorem gw_517 : (.selects "MountainFarms$Ground" y_Gr_leastVolumeTo y_Gr_leastVolumeTo : Cond) ∈ GW := gm_3 (gk_spec (k := 37) (by decide +kernel)) rfl
theorem gw_518 : (.code y_Gr_leastVolumeTo b_Gr_leastVolumeTo 4 (some .int) : Cond) ∈ GW := gm_3 (List.mem_of_getElem? (i := 38) rfl) rfl
theorem gw_519 : (.methodLink "MountainFarmsLaw" 113 y_X_turnsOn : Cond) ∈ GW := gm_3 (gk_spec (k := 39) (by decide +kernel)) rfl
theorem gw_520 : (.instanceMethod y_X_turnsOn : Cond) ∈ GW := gm_3 (gk_spec (k := 40) (by decide +kernel)) rfl
theorem gw_521 : (.selects "MountainFarms" y_X_turnsOn y_X_turnsOn : Cond) ∈ GW := gm_3 (gk_spec (k := 41) (by decide +kernel)) rfl
theorem gw_522 : (.code y_X_turnsOn b_X_turnsOn 5 (some .int) : Cond) ∈ GW := gm_3 (List.mem_of_getElem? (i := 42) rfl) rfl
theorem gw_523 : (.methodLink "MountainFarmsLaw" 117 y_X_save : Cond) ∈ GW := gm_3 (gk_spec (k := 43) (by decide +kernel)) rfl
theorem gw_524 : (.instanceMethod y_X_save : Cond) ∈ GW := gm_3 (gk_spec (k := 44) (by decide +kernel)) rfl
theorem gw_525 : (.selects "MountainFarms" y_X_save y_X_save : Cond) ∈ GW := gm_3 (gk_spec (k := 45) (by decide +kernel)) rfl
theorem gw_526 : (.code y_X_save b_X_save 8 (some .int) : Cond) ∈ GW := gm_3 (List.mem_of_getElem? (i := 46) rfl) rfl
theorem gw_527 : (.methodLink "MountainFarms" 230 y_In_bitCount : Cond) ∈ GW := gm_3 (gk_spec (k := 47) (by decide +kernel)) rfl
theorem gw_528 : (.static y_In_bitCount : Cond) ∈ GW := gm_3 (gk_spec (k := 48) (by decide +kernel)) rfl
theorem gw_529 : (.code y_In_bitCount b_In_bitCount 1 (some .int) : Cond) ∈ GW := gm_3 (List.mem_of_getElem? (i := 49) rfl) rfl
theorem gw_530 : (.constant "java/lang/Integer" 265 1431655765 : Cond) ∈ GW := gm_3 (gk_spec (k := 50) (by decide +kernel)) rfl
theorem gw_531 : (.constant "java/lang/Integer" 266 858993459 : Cond) ∈ GW := gm_3 (gk_spec (k := 51) (by decide +kernel)) rfl
theorem gw_532 : (.constant "java/lang/Integer" 267 252645135 : Cond) ∈ GW := gm_3 (gk_spec (k := 52) (by decide +kernel)) rfl
theorem gw_533 : (.methodLink "MountainFarmsLaw" 121 y_X_volume : Cond) ∈ GW := gm_3 (gk_spec (k := 53) (by decide +kernel)) rfl
theorem gw_534 : (.instanceMethod y_X_volume : Cond) ∈ GW := gm_3 (gk_spec (k := 54) (by decide +kernel)) rfl
theorem gw_535 : (.selects "MountainFarms" y_X_volume y_X_volume : Cond) ∈ GW := gm_3 (gk_spec (k := 55) (by decide +kernel)) rfl
theorem gw_536 : (.code y_X_volume b_X_volume 3 (some .int) : Cond) ∈ GW := gm_3 (List.mem_of_getElem? (i := 56) rfl) rfl
theorem gw_537 : (.methodLink "MountainFarmsLaw" 125 y_X_pigs : Cond) ∈ GW := gm_3 (gk_spec (k := 57) (by decide +kernel)) rfl
theorem gw_538 : (.instanceMethod y_X_pigs : Cond) ∈ GW := gm_3 (gk_spec (k := 58) (by decide +kernel)) rfl
theorem gw_539 : (.selects "MountainFarms" y_X_pigs y_X_pigs : Cond) ∈ GW := gm_3 (gk_spec (k := 59) (by decide +kernel)) rfl
theorem gw_540 : (.code y_X_pigs b_X_pigs 2 (some .int) : Cond) ∈ GW := gm_3 (List.mem_of_getElem? (i := 60) rfl) rfl
theorem gw_541 : (.methodLink "MountainFarmsLaw" 130 y_X_months : Cond) ∈ GW := gm_3 (gk_spec (k := 61) (by decide +kernel)) rfl
theorem gw_542 : (.instanceMethod y_X_months : Cond) ∈ GW := gm_3 (gk_spec (k := 62) (by decide +kernel)) rfl
theorem gw_543 : (.selects "MountainFarms" y_X_months y_X_months : Cond) ∈ GW := gm_3 (gk_spec (k := 63) (by decide +kernel)) rfl
theorem gw_544 : (.code y_X_months b_X_months 2 (some .int) : Cond) ∈ GW := gm_3 (List.mem_of_getElem? (i := 64) rfl) rfl
theorem gw_545 : (.methodLink "MountainFarms" 247 y_Sl_goMonths : Cond) ∈ GW := gm_3 (gk_spec (k := 65) (by decide +kernel)) rfl
theorem gw_546 : (.instanceMethod y_Sl_goMonths : Cond) ∈ GW := gm_3 (gk_spec (k := 66) (by decide +kernel)) rfl
theorem gw_547 : (.selects "MountainFarms$Slope" y_Sl_goMonths y_Sl_goMonths : Cond) ∈ GW := gm_3 (gk_spec (k := 67) (by decide +kernel)) rfl
theorem gw_548 : (.code y_Sl_goMonths b_Sl_goMonths 4 (some .int) : Cond) ∈ GW := gm_3 (List.mem_of_getElem? (i := 68) rfl) rfl
theorem gw_549 : (.methodLink "MountainFarms$Slope" 60 y_Sl_goMonth : Cond) ∈ GW := gm_3 (gk_spec (k := 69) (by decide +kernel)) rfl
theorem gw_550 : (.instanceMethod y_Sl_goMonth : Cond) ∈ GW := gm_3 (gk_spec (k := 70) (by decide +kernel)) rfl
theorem gw_551 : (.selects "MountainFarms$Slope" y_Sl_goMonth y_Sl_goMonth : Cond) ∈ GW := gm_3 (gk_spec (k := 71) (by decide +kernel)) rfl
theorem gw_552 : (.code y_Sl_goMonth b_Sl_goMonth 2 (some .boolean) : Cond) ∈ GW := gm_3 (List.mem_of_getElem? (i := 72) rfl) rfl
theorem gw_553 : (.methodLink "MountainFarms$Slope" 64 y_Mo_goOn : Cond) ∈ GW := gm_3 (gk_spec (k := 73) (by decide +kernel)) rfl
theorem gw_554 : (.instanceMethod y_Mo_goOn : Cond) ∈ GW := gm_3 (gk_spec (k := 74) (by decide +kernel)) rfl
theorem gw_555 : (.selects "MountainFarms$Mountain" y_Mo_goOn y_Mo_goOn : Cond) ∈ GW := gm_3 (gk_spec (k := 75) (by decide +kernel)) rfl
theorem gw_556 : (.code y_Mo_goOn b_Mo_goOn 5 (some .boolean) : Cond) ∈ GW := gm_3 (List.mem_of_getElem? (i := 76) rfl) rfl
theorem gw_557 : (.constant "MountainFarms$Mountain" 45 1103515245 : Cond) ∈ GW := gm_3 (gk_spec (k := 77) (by decide +kernel)) rfl
theorem gw_558 : (.methodLink "MountainFarms$Mountain" 46 y_Mo_tenthAt : Cond) ∈ GW := gm_3 (gk_spec (k := 78) (by decide +kernel)) rfl
theorem gw_559 : (.methodLink "MountainFarms$Slope" 67 y_Sl_eruptNow : Cond) ∈ GW := gm_3 (gk_spec (k := 79) (by decide +kernel)) rfl
theorem gw_561 : (.instanceMethod y_Sl_eruptNow : Cond) ∈ GW := gm_3 (gk_spec (k := 81) (by decide +kernel)) rfl
theorem gw_562 : (.code y_Sl_eruptNow b_Sl_eruptNow 3 none : Cond) ∈ GW := gm_3 (List.mem_of_getElem? (i := 82) rfl) rfl
theorem gw_563 : (.methodLink "MountainFarms$Slope" 79 y_Gr_lavaFrom : Cond) ∈ GW := gm_3 (gk_spec (k := 83) (by decide +kernel)) rfl
theorem gw_564 : (.methodLink "MountainFarms$Slope" 83 y_Gr_coolDown : Cond) ∈ GW := gm_3 (gk_spec (k := 84) (by decide +kernel)) rfl
theorem gw_565 : (.instanceMethod y_Gr_coolDown : Cond) ∈ GW := gm_3 (gk_spec (k := 85) (by decide +kernel)) rfl
theorem gw_566 : (.selects "MountainFarms$Ground" y_Gr_coolDown y_Gr_coolDown : Cond) ∈ GW := gm_3 (gk_spec (k := 86) (by decide +kernel)) rfl
theorem gw_567 : (.code y_Gr_coolDown b_Gr_coolDown 4 none : Cond) ∈ GW := gm_3 (List.mem_of_getElem? (i := 87) rfl) rfl
theorem gw_568 : (.methodLink "MountainFarms$Slope" 90 y_Fa_standingOn : Cond) ∈ GW := gm_3 (gk_spec (k := 88) (by decide +kernel)) rfl
theorem gw_569 : (.methodLink "MountainFarms$Slope" 70 y_Fa_earnOn : Cond) ∈ GW := gm_3 (gk_spec (k := 89) (by decide +kernel)) rfl
theorem gw_570 : (.instanceMethod y_Fa_earnOn : Cond) ∈ GW := gm_3 (gk_spec (k := 90) (by decide +kernel)) rfl
theorem gw_571 : (.selects "MountainFarms$Farms" y_Fa_earnOn y_Fa_earnOn : Cond) ∈ GW := gm_3 (gk_spec (k := 91) (by decide +kernel)) rfl
theorem gw_572 : (.code y_Fa_earnOn b_Fa_earnOn 3 none : Cond) ∈ GW := gm_3 (List.mem_of_getElem? (i := 92) rfl) rfl
theorem gw_573 : (.methodLink "MountainFarms$Farms" 58 y_Fa_bearsOn : Cond) ∈ GW := gm_3 (gk_spec (k := 93) (by decide +kernel)) rfl
theorem gw_574 : (.methodLink "MountainFarms$Slope" 73 y_Gr_growOlder : Cond) ∈ GW := gm_3 (gk_spec (k := 94) (by decide +kernel)) rfl
theorem gw_575 : (.instanceMethod y_Gr_growOlder : Cond) ∈ GW := gm_3 (gk_spec (k := 95) (by decide +kernel)) rfl
theorem gw_576 : (.selects "MountainFarms$Ground" y_Gr_growOlder y_Gr_growOlder : Cond) ∈ GW := gm_3 (gk_spec (k := 96) (by decide +kernel)) rfl
theorem gw_577 : (.code y_Gr_growOlder b_Gr_growOlder 2 none : Cond) ∈ GW := gm_3 (List.mem_of_getElem? (i := 97) rfl) rfl
theorem gw_578 : (.methodLink "MountainFarmsLaw" 134 y_X_seed : Cond) ∈ GW := gm_3 (gk_spec (k := 98) (by decide +kernel)) rfl
theorem gw_579 : (.instanceMethod y_X_seed : Cond) ∈ GW := gm_3 (gk_spec (k := 99) (by decide +kernel)) rfl
theorem gw_580 : (.selects "MountainFarms" y_X_seed y_X_seed : Cond) ∈ GW := gm_3 (gk_spec (k := 100) (by decide +kernel)) rfl
theorem gw_581 : (.code y_X_seed b_X_seed 3 (some .int) : Cond) ∈ GW := gm_3 (List.mem_of_getElem? (i := 101) rfl) rfl
theorem gw_582 : (.methodLink "MountainFarmsLaw" 138 y_X_now : Cond) ∈ GW := gm_3 (gk_spec (k := 102) (by decide +kernel)) rfl
theorem gw_583 : (.instanceMethod y_X_now : Cond) ∈ GW := gm_3 (gk_spec (k := 103) (by decide +kernel)) rfl
theorem gw_584 : (.selects "MountainFarms" y_X_now y_X_now : Cond) ∈ GW := gm_3 (gk_spec (k := 104) (by decide +kernel)) rfl
theorem gw_585 : (.code y_X_now b_X_now 2 (some .int) : Cond) ∈ GW := gm_3 (List.mem_of_getElem? (i := 105) rfl) rfl
theorem gw_586 : (.methodLink "MountainFarmsLaw" 142 y_X_doPigs : Cond) ∈ GW := gm_3 (gk_spec (k := 106) (by decide +kernel)) rfl
theorem gw_587 : (.instanceMethod y_X_doPigs : Cond) ∈ GW := gm_3 (gk_spec (k := 107) (by decide +kernel)) rfl
theorem gw_588 : (.selects "MountainFarms" y_X_doPigs y_X_doPigs : Cond) ∈ GW := gm_3 (gk_spec (k := 108) (by decide +kernel)) rfl
theorem gw_589 : (.code y_X_doPigs b_X_doPigs 5 (some .int) : Cond) ∈ GW := gm_3 (List.mem_of_getElem? (i := 109) rfl) rfl
theorem gw_590 : (.methodLink "MountainFarms" 265 y_Lo_compare : Cond) ∈ GW := gm_3 (gk_spec (k := 110) (by decide +kernel)) rfl
theorem gw_591 : (.static y_Lo_compare : Cond) ∈ GW := gm_3 (gk_spec (k := 111) (by decide +kernel)) rfl
theorem gw_592 : (.code y_Lo_compare b_Lo_compare 4 (some .int) : Cond) ∈ GW := gm_3 (List.mem_of_getElem? (i := 112) rfl) rfl
theorem gw_593 : (.methodLink "MountainFarmsLaw" 146 y_X_out : Cond) ∈ GW := gm_3 (gk_spec (k := 113) (by decide +kernel)) rfl
theorem gw_594 : (.instanceMethod y_X_out : Cond) ∈ GW := gm_3 (gk_spec (k := 114) (by decide +kernel)) rfl
theorem gw_595 : (.selects "MountainFarms" y_X_out y_X_out : Cond) ∈ GW := gm_3 (gk_spec (k := 115) (by decide +kernel)) rfl
theorem gw_596 : (.code y_X_out b_X_out 2 (some .int) : Cond) ∈ GW := gm_3 (List.mem_of_getElem? (i := 116) rfl) rfl
theorem gw_597 : (.methodLink "MountainFarms" 271 y_Sl_become : Cond) ∈ GW := gm_3 (gk_spec (k := 117) (by decide +kernel)) rfl
theorem gw_598 : (.instanceMethod y_Sl_become : Cond) ∈ GW := gm_3 (gk_spec (k := 118) (by decide +kernel)) rfl
theorem gw_599 : (.selects "MountainFarms$Slope" y_Sl_become y_Sl_become : Cond) ∈ GW := gm_3 (gk_spec (k := 119) (by decide +kernel)) rfl
theorem gw_600 : (.code y_Sl_become b_Sl_become 2 none : Cond) ∈ GW := gm_3 (List.mem_of_getElem? (i := 120) rfl) rfl
theorem gw_601 : (.methodLink "MountainFarms$Slope" 50 y_Gr_become : Cond) ∈ GW := gm_3 (gk_spec (k := 121) (by decide +kernel)) rfl
theorem gw_602 : (.methodLink "MountainFarms$Slope" 54 y_Fa_become : Cond) ∈ GW := gm_3 (gk_spec (k := 122) (by decide +kernel)) rfl
theorem gw_603 : (.instanceMethod y_Fa_become : Cond) ∈ GW := gm_3 (gk_spec (k := 123) (by decide +kernel)) rfl
theorem gw_604 : (.selects "MountainFarms$Farms" y_Fa_become y_Fa_become : Cond) ∈ GW := gm_3 (gk_spec (k := 124) (by decide +kernel)) rfl
theorem gw_605 : (.code y_Fa_become b_Fa_become 2 none : Cond) ∈ GW := gm_3 (List.mem_of_getElem? (i := 125) rfl) rfl
theorem gw_606 : (.methodLink "MountainFarms$Farms" 31 (⟨"java/lang/System", "arraycopy", "(Ljava/lang/Object;ILjava/lang/Object;II)V"⟩ : MethodName) : Cond) ∈ GW := gm_3 (gk_spec (k := 126) (by decide +kernel)) rfl
theorem gw_607 : (.methodLink "MountainFarms$Slope" 57 y_Mo_become : Cond) ∈ GW := gm_3 (gk_spec (k := 127) (by decide +kernel)) rfl
theorem gw_608 : (.instanceMethod y_Mo_become : Cond) ∈ GW := gm_3 (gk_spec (k := 128) (by decide +kernel)) rfl
theorem gw_609 : (.selects "MountainFarms$Mountain" y_Mo_become y_Mo_become : Cond) ∈ GW := gm_3 (gk_spec (k := 129) (by decide +kernel)) rfl
theorem gw_610 : (.code y_Mo_become b_Mo_become 2 none : Cond) ∈ GW := gm_3 (List.mem_of_getElem? (i := 130) rfl) rfl
theorem gw_611 : (.methodLink "MountainFarms$Mountain" 31 (⟨"java/lang/System", "arraycopy", "(Ljava/lang/Object;ILjava/lang/Object;II)V"⟩ : MethodName) : Cond) ∈ GW := gm_3 (gk_spec (k := 131) (by decide +kernel)) rfl
theorem gw_612 : (.methodLink "MountainFarms" 274 y_Sl_goMonth : Cond) ∈ GW := gm_3 (gk_spec (k := 132) (by decide +kernel)) rfl
theorem gw_613 : (.methodLink "MountainFarmsLaw" 150 y_X_on : Cond) ∈ GW := gm_3 (gk_spec (k := 133) (by decide +kernel)) rfl
theorem gw_614 : (.instanceMethod y_X_on : Cond) ∈ GW := gm_3 (gk_spec (k := 134) (by decide +kernel)) rfl
theorem gw_615 : (.selects "MountainFarms" y_X_on y_X_on : Cond) ∈ GW := gm_3 (gk_spec (k := 135) (by decide +kernel)) rfl
theorem gw_616 : (.code y_X_on b_X_on 3 (some .int) : Cond) ∈ GW := gm_3 (List.mem_of_getElem? (i := 136) rfl) rfl
theorem gw_617 : (.methodLink "MountainFarms" 277 y_Fa_allCoins : Cond) ∈ GW := gm_3 (gk_spec (k := 137) (by decide +kernel)) rfl
theorem gw_618 : (.instanceMethod y_Fa_allCoins : Cond) ∈ GW := gm_3 (gk_spec (k := 138) (by decide +kernel)) rfl
theorem gw_619 : (.selects "MountainFarms$Farms" y_Fa_allCoins y_Fa_allCoins : Cond) ∈ GW := gm_3 (gk_spec (k := 139) (by decide +kernel)) rfl
theorem gw_620 : (.code y_Fa_allCoins b_Fa_allCoins 3 (some .int) : Cond) ∈ GW := gm_3 (List.mem_of_getElem? (i := 140) rfl) rfl
theorem gw_621 : (.methodLink "MountainFarmsLaw" 154 y_X_crop : Cond) ∈ GW := gm_3 (gk_spec (k := 141) (by decide +kernel)) rfl
theorem gw_622 : (.instanceMethod y_X_crop : Cond) ∈ GW := gm_3 (gk_spec (k := 142) (by decide +kernel)) rfl
theorem gw_623 : (.selects "MountainFarms" y_X_crop y_X_crop : Cond) ∈ GW := gm_3 (gk_spec (k := 143) (by decide +kernel)) rfl
theorem gw_624 : (.code y_X_crop b_X_crop 6 (some .int) : Cond) ∈ GW := gm_3 (List.mem_of_getElem? (i := 144) rfl) rfl
theorem gw_625 : (.methodLink "MountainFarms" 281 y_Fa_sowAll : Cond) ∈ GW := gm_3 (gk_spec (k := 145) (by decide +kernel)) rfl
theorem gw_626 : (.instanceMethod y_Fa_sowAll : Cond) ∈ GW := gm_3 (gk_spec (k := 146) (by decide +kernel)) rfl
theorem gw_627 : (.selects "MountainFarms$Farms" y_Fa_sowAll y_Fa_sowAll : Cond) ∈ GW := gm_3 (gk_spec (k := 147) (by decide +kernel)) rfl
theorem gw_628 : (.code y_Fa_sowAll b_Fa_sowAll 3 none : Cond) ∈ GW := gm_3 (List.mem_of_getElem? (i := 148) rfl) rfl
theorem gw_629 : (.methodLink "MountainFarmsLaw" 158 y_X_feed : Cond) ∈ GW := gm_3 (gk_spec (k := 149) (by decide +kernel)) rfl
theorem gw_630 : (.instanceMethod y_X_feed : Cond) ∈ GW := gm_3 (gk_spec (k := 150) (by decide +kernel)) rfl
theorem gw_631 : (.selects "MountainFarms" y_X_feed y_X_feed : Cond) ∈ GW := gm_3 (gk_spec (k := 151) (by decide +kernel)) rfl
theorem gw_632 : (.code y_X_feed b_X_feed 4 (some .int) : Cond) ∈ GW := gm_3 (List.mem_of_getElem? (i := 152) rfl) rfl
theorem gw_633 : (.methodLink "MountainFarms" 293 y_Ta_append : Cond) ∈ GW := gm_3 (gk_spec (k := 153) (by decide +kernel)) rfl
theorem gw_634 : (.instanceMethod y_Ta_append : Cond) ∈ GW := gm_3 (gk_spec (k := 154) (by decide +kernel)) rfl
theorem gw_635 : (.selects "MountainFarms$Tape" y_Ta_append y_Ta_append : Cond) ∈ GW := gm_3 (gk_spec (k := 155) (by decide +kernel)) rfl
theorem gw_636 : (.code y_Ta_append b_Ta_append 2 none : Cond) ∈ GW := gm_3 (List.mem_of_getElem? (i := 156) rfl) rfl
theorem gw_637 : (.methodLink "MountainFarmsLaw" 162 y_X_wipe : Cond) ∈ GW := gm_3 (gk_spec (k := 157) (by decide +kernel)) rfl
theorem gw_638 : (.instanceMethod y_X_wipe : Cond) ∈ GW := gm_3 (gk_spec (k := 158) (by decide +kernel)) rfl
theorem gw_639 : (.selects "MountainFarms" y_X_wipe y_X_wipe : Cond) ∈ GW := gm_3 (gk_spec (k := 159) (by decide +kernel)) rfl
theorem gw_640 : (.code y_X_wipe b_X_wipe 2 (some .int) : Cond) ∈ GW := gm_3 (List.mem_of_getElem? (i := 160) rfl) rfl
theorem gw_641 : (.methodLink "MountainFarmsLaw" 166 y_X_slope : Cond) ∈ GW := gm_3 (gk_spec (k := 161) (by decide +kernel)) rfl
theorem gw_642 : (.instanceMethod y_X_slope : Cond) ∈ GW := gm_3 (gk_spec (k := 162) (by decide +kernel)) rfl
theorem gw_643 : (.selects "MountainFarms" y_X_slope y_X_slope : Cond) ∈ GW := gm_3 (gk_spec (k := 163) (by decide +kernel)) rfl
theorem gw_644 : (.code y_X_slope b_X_slope 2 (some .int) : Cond) ∈ GW := gm_3 (List.mem_of_getElem? (i := 164) rfl) rfl
theorem gw_645 : (.methodLink "MountainFarms" 296 y_Tx_readAll : Cond) ∈ GW := gm_3 (gk_spec (k := 165) (by decide +kernel)) rfl
theorem gw_646 : (.instanceMethod y_Tx_readAll : Cond) ∈ GW := gm_3 (gk_spec (k := 166) (by decide +kernel)) rfl
theorem gw_647 : (.selects "MountainFarms$SlopeText" y_Tx_readAll y_Tx_readAll : Cond) ∈ GW := gm_3 (gk_spec (k := 167) (by decide +kernel)) rfl
theorem gw_648 : (.code y_Tx_readAll b_Tx_readAll 3 (some .int) : Cond) ∈ GW := gm_3 (List.mem_of_getElem? (i := 168) rfl) rfl
theorem gw_649 : (.methodLink "MountainFarms$SlopeText" 18 y_Ta_goToFirst : Cond) ∈ GW := gm_3 (gk_spec (k := 169) (by decide +kernel)) rfl
theorem gw_650 : (.instanceMethod y_Ta_goToFirst : Cond) ∈ GW := gm_3 (gk_spec (k := 170) (by decide +kernel)) rfl
theorem gw_651 : (.selects "MountainFarms$Tape" y_Ta_goToFirst y_Ta_goToFirst : Cond) ∈ GW := gm_3 (gk_spec (k := 171) (by decide +kernel)) rfl
theorem gw_652 : (.code y_Ta_goToFirst b_Ta_goToFirst 1 none : Cond) ∈ GW := gm_3 (List.mem_of_getElem? (i := 172) rfl) rfl
theorem gw_653 : (.methodLink "MountainFarms$Tape" 31 y_Ta_goToNext : Cond) ∈ GW := gm_3 (gk_spec (k := 173) (by decide +kernel)) rfl
theorem gw_654 : (.instanceMethod y_Ta_goToNext : Cond) ∈ GW := gm_3 (gk_spec (k := 174) (by decide +kernel)) rfl
theorem gw_655 : (.selects "MountainFarms$Tape" y_Ta_goToNext y_Ta_goToNext : Cond) ∈ GW := gm_3 (gk_spec (k := 175) (by decide +kernel)) rfl
theorem gw_656 : (.code y_Ta_goToNext b_Ta_goToNext 1 none : Cond) ∈ GW := gm_3 (List.mem_of_getElem? (i := 176) rfl) rfl
theorem gw_657 : (.methodLink "MountainFarms$Tape" 34 y_Ta_isLetter : Cond) ∈ GW := gm_3 (gk_spec (k := 177) (by decide +kernel)) rfl
theorem gw_658 : (.static y_Ta_isLetter : Cond) ∈ GW := gm_3 (gk_spec (k := 178) (by decide +kernel)) rfl
theorem gw_659 : (.code y_Ta_isLetter b_Ta_isLetter 1 (some .boolean) : Cond) ∈ GW := gm_3 (List.mem_of_getElem? (i := 179) rfl) rfl
theorem gw_660 : (.methodLink "MountainFarms$Tape" 38 y_Ta_endWord : Cond) ∈ GW := gm_3 (gk_spec (k := 180) (by decide +kernel)) rfl
theorem gw_662 : (.instanceMethod y_Ta_endWord : Cond) ∈ GW := gm_3 (gk_spec (k := 182) (by decide +kernel)) rfl
theorem gw_663 : (.code y_Ta_endWord b_Ta_endWord 1 none : Cond) ∈ GW := gm_3 (List.mem_of_getElem? (i := 183) rfl) rfl
theorem gw_664 : (.methodLink "MountainFarms$Tape" 41 y_Ta_isDigit : Cond) ∈ GW := gm_3 (gk_spec (k := 184) (by decide +kernel)) rfl
theorem gw_665 : (.static y_Ta_isDigit : Cond) ∈ GW := gm_3 (gk_spec (k := 185) (by decide +kernel)) rfl
theorem gw_666 : (.code y_Ta_isDigit b_Ta_isDigit 1 (some .boolean) : Cond) ∈ GW := gm_3 (List.mem_of_getElem? (i := 186) rfl) rfl
theorem gw_667 : (.methodLink "MountainFarms$Tape" 44 y_Ta_endNumber : Cond) ∈ GW := gm_3 (gk_spec (k := 187) (by decide +kernel)) rfl
theorem gw_669 : (.instanceMethod y_Ta_endNumber : Cond) ∈ GW := gm_3 (gk_spec (k := 189) (by decide +kernel)) rfl
theorem gw_670 : (.code y_Ta_endNumber b_Ta_endNumber 1 none : Cond) ∈ GW := gm_3 (List.mem_of_getElem? (i := 190) rfl) rfl
theorem gw_671 : (.methodLink "MountainFarms$Tape" 57 y_Ma_min : Cond) ∈ GW := gm_3 (gk_spec (k := 191) (by decide +kernel)) rfl
theorem gw_672 : (.methodLink "MountainFarms$SlopeText" 21 y_Tx_readItem : Cond) ∈ GW := gm_3 (gk_spec (k := 192) (by decide +kernel)) rfl
theorem gw_674 : (.instanceMethod y_Tx_readItem : Cond) ∈ GW := gm_3 (gk_spec (k := 194) (by decide +kernel)) rfl
theorem gw_675 : (.code y_Tx_readItem b_Tx_readItem 3 (some .boolean) : Cond) ∈ GW := gm_3 (List.mem_of_getElem? (i := 195) rfl) rfl
theorem gw_676 : (.methodLink "MountainFarms$SlopeText" 39 y_Tx_kindHere : Cond) ∈ GW := gm_3 (gk_spec (k := 196) (by decide +kernel)) rfl
theorem gw_678 : (.instanceMethod y_Tx_kindHere : Cond) ∈ GW := gm_3 (gk_spec (k := 198) (by decide +kernel)) rfl
theorem gw_679 : (.code y_Tx_kindHere b_Tx_kindHere 2 (some .int) : Cond) ∈ GW := gm_3 (List.mem_of_getElem? (i := 199) rfl) rfl
theorem gw_680 : (.methodLink "MountainFarms$SlopeText" 107 y_Tx_nameOf : Cond) ∈ GW := gm_3 (gk_spec (k := 200) (by decide +kernel)) rfl
theorem gw_681 : (.static y_Tx_nameOf : Cond) ∈ GW := gm_3 (gk_spec (k := 201) (by decide +kernel)) rfl
theorem gw_682 : (.code y_Tx_nameOf b_Tx_nameOf 1 (some (.object "java/lang/String")) : Cond) ∈ GW := gm_3 (List.mem_of_getElem? (i := 202) rfl) rfl
theorem gw_689 : (.methodLink "MountainFarms$SlopeText" 55 y_Ta_isAt : Cond) ∈ GW := gm_3 (gk_spec (k := 209) (by decide +kernel)) rfl
theorem gw_690 : (.instanceMethod y_Ta_isAt : Cond) ∈ GW := gm_3 (gk_spec (k := 210) (by decide +kernel)) rfl
theorem gw_691 : (.selects "MountainFarms$Tape" y_Ta_isAt y_Ta_isAt : Cond) ∈ GW := gm_3 (gk_spec (k := 211) (by decide +kernel)) rfl
theorem gw_692 : (.code y_Ta_isAt b_Ta_isAt 3 (some .boolean) : Cond) ∈ GW := gm_3 (List.mem_of_getElem? (i := 212) rfl) rfl
theorem gw_693 : (.methodLink "MountainFarms$Tape" 47 y_Sg_length : Cond) ∈ GW := gm_3 (gk_spec (k := 213) (by decide +kernel)) rfl
theorem gw_694 : (.instanceMethod y_Sg_length : Cond) ∈ GW := gm_3 (gk_spec (k := 214) (by decide +kernel)) rfl
theorem gw_695 : (.selects "java/lang/String" y_Sg_length y_Sg_length : Cond) ∈ GW := gm_3 (gk_spec (k := 215) (by decide +kernel)) rfl
theorem gw_696 : (.code y_Sg_length b_Sg_length 1 (some .int) : Cond) ∈ GW := gm_3 (List.mem_of_getElem? (i := 216) rfl) rfl
theorem gw_697 : (.methodLink "java/lang/String" 335 y_Sg_coder : Cond) ∈ GW := gm_3 (gk_spec (k := 217) (by decide +kernel)) rfl
theorem gw_698 : (.instanceMethod y_Sg_coder : Cond) ∈ GW := gm_3 (gk_spec (k := 218) (by decide +kernel)) rfl
theorem gw_699 : (.selects "java/lang/String" y_Sg_coder y_Sg_coder : Cond) ∈ GW := gm_3 (gk_spec (k := 219) (by decide +kernel)) rfl
theorem gw_700 : (.code y_Sg_coder b_Sg_coder 1 (some .byte) : Cond) ∈ GW := gm_3 (List.mem_of_getElem? (i := 220) rfl) rfl
theorem gw_701 : (.fieldLink "java/lang/String" 38 "java/lang/String" "COMPACT_STRINGS" "Z" : Cond) ∈ GW := gm_3 (gk_spec (k := 221) (by decide +kernel)) rfl
theorem gw_703 : (.methodLink "MountainFarms$Tape" 53 y_Sg_charAt : Cond) ∈ GW := gm_3 (gk_spec (k := 223) (by decide +kernel)) rfl
theorem gw_704 : (.instanceMethod y_Sg_charAt : Cond) ∈ GW := gm_3 (gk_spec (k := 224) (by decide +kernel)) rfl
theorem gw_705 : (.selects "java/lang/String" y_Sg_charAt y_Sg_charAt : Cond) ∈ GW := gm_3 (gk_spec (k := 225) (by decide +kernel)) rfl
theorem gw_706 : (.code y_Sg_charAt b_Sg_charAt 2 (some .char) : Cond) ∈ GW := gm_3 (List.mem_of_getElem? (i := 226) rfl) rfl
theorem gw_707 : (.methodLink "java/lang/String" 492 y_Sg_isLatin1 : Cond) ∈ GW := gm_3 (gk_spec (k := 227) (by decide +kernel)) rfl
theorem gw_708 : (.instanceMethod y_Sg_isLatin1 : Cond) ∈ GW := gm_3 (gk_spec (k := 228) (by decide +kernel)) rfl
theorem gw_709 : (.selects "java/lang/String" y_Sg_isLatin1 y_Sg_isLatin1 : Cond) ∈ GW := gm_3 (gk_spec (k := 229) (by decide +kernel)) rfl
theorem gw_710 : (.code y_Sg_isLatin1 b_Sg_isLatin1 1 (some .boolean) : Cond) ∈ GW := gm_3 (List.mem_of_getElem? (i := 230) rfl) rfl
theorem gw_711 : (.methodLink "java/lang/String" 495 y_S1_charAt : Cond) ∈ GW := gm_3 (gk_spec (k := 231) (by decide +kernel)) rfl
theorem gw_712 : (.static y_S1_charAt : Cond) ∈ GW := gm_3 (gk_spec (k := 232) (by decide +kernel)) rfl
theorem gw_713 : (.code y_S1_charAt b_S1_charAt 2 (some .char) : Cond) ∈ GW := gm_3 (List.mem_of_getElem? (i := 233) rfl) rfl
theorem gw_714 : (.methodLink "java/lang/StringLatin1" 9 y_Sg_checkIndex : Cond) ∈ GW := gm_3 (gk_spec (k := 234) (by decide +kernel)) rfl
theorem gw_715 : (.static y_Sg_checkIndex : Cond) ∈ GW := gm_3 (gk_spec (k := 235) (by decide +kernel)) rfl
theorem gw_716 : (.code y_Sg_checkIndex b_Sg_checkIndex 2 none : Cond) ∈ GW := gm_3 (List.mem_of_getElem? (i := 236) rfl) rfl
theorem gw_717 : (.fieldLink "java/lang/String" 1053 "jdk/internal/util/Preconditions" "SIOOBE_FORMATTER" "Ljava/util/function/BiFunction;" : Cond) ∈ GW := gm_3 (gk_spec (k := 237) (by decide +kernel)) rfl
theorem gw_719 : (.methodLink "java/lang/String" 1059 y_Pr_checkIndex : Cond) ∈ GW := gm_3 (gk_spec (k := 239) (by decide +kernel)) rfl
theorem gw_720 : (.static y_Pr_checkIndex : Cond) ∈ GW := gm_4 (gk_spec (k := 0) (by decide +kernel)) rfl
theorem gw_721 : (.code y_Pr_checkIndex b_Pr_checkIndex 3 (some .int) : Cond) ∈ GW := gm_4 (List.mem_of_getElem? (i := 1) rfl) rfl
theorem gw_722 : (.methodLink "java/lang/String" 498 y_S6_charAt : Cond) ∈ GW := gm_4 (gk_spec (k := 2) (by decide +kernel)) rfl
theorem gw_723 : (.static y_S6_charAt : Cond) ∈ GW := gm_4 (gk_spec (k := 3) (by decide +kernel)) rfl
theorem gw_724 : (.code y_S6_charAt b_S6_charAt 2 (some .char) : Cond) ∈ GW := gm_4 (List.mem_of_getElem? (i := 4) rfl) rfl
theorem gw_725 : (.methodLink "java/lang/StringUTF16" 67 y_S6_checkIndex : Cond) ∈ GW := gm_4 (gk_spec (k := 5) (by decide +kernel)) rfl
theorem gw_726 : (.static y_S6_checkIndex : Cond) ∈ GW := gm_4 (gk_spec (k := 6) (by decide +kernel)) rfl
theorem gw_727 : (.code y_S6_checkIndex b_S6_checkIndex 2 none : Cond) ∈ GW := gm_4 (List.mem_of_getElem? (i := 7) rfl) rfl
theorem gw_728 : (.methodLink "java/lang/StringUTF16" 48 y_S6_length : Cond) ∈ GW := gm_4 (gk_spec (k := 8) (by decide +kernel)) rfl
theorem gw_729 : (.static y_S6_length : Cond) ∈ GW := gm_4 (gk_spec (k := 9) (by decide +kernel)) rfl
theorem gw_730 : (.code y_S6_length b_S6_length 1 (some .int) : Cond) ∈ GW := gm_4 (List.mem_of_getElem? (i := 10) rfl) rfl
theorem gw_731 : (.methodLink "java/lang/StringUTF16" 414 y_Sg_checkIndex : Cond) ∈ GW := gm_4 (gk_spec (k := 11) (by decide +kernel)) rfl
theorem gw_732 : (.methodLink "java/lang/StringUTF16" 71 y_S6_getChar : Cond) ∈ GW := gm_4 (gk_spec (k := 12) (by decide +kernel)) rfl
theorem gw_733 : (.static y_S6_getChar : Cond) ∈ GW := gm_4 (gk_spec (k := 13) (by decide +kernel)) rfl
theorem gw_734 : (.code y_S6_getChar b_S6_getChar 2 (some .char) : Cond) ∈ GW := gm_4 (List.mem_of_getElem? (i := 14) rfl) rfl
theorem gw_735 : (.fieldLink "java/lang/StringUTF16" 44 "java/lang/StringUTF16" "$assertionsDisabled" "Z" : Cond) ∈ GW := gm_4 (gk_spec (k := 15) (by decide +kernel)) rfl
theorem gw_737 : (.fieldLink "java/lang/StringUTF16" 59 "java/lang/StringUTF16" "HI_BYTE_SHIFT" "I" : Cond) ∈ GW := gm_4 (gk_spec (k := 17) (by decide +kernel)) rfl
theorem gw_739 : (.fieldLink "java/lang/StringUTF16" 63 "java/lang/StringUTF16" "LO_BYTE_SHIFT" "I" : Cond) ∈ GW := gm_4 (gk_spec (k := 19) (by decide +kernel)) rfl
theorem gw_741 : (.methodLink "MountainFarms$SlopeText" 49 y_Tx_readFarm : Cond) ∈ GW := gm_4 (gk_spec (k := 21) (by decide +kernel)) rfl
theorem gw_743 : (.instanceMethod y_Tx_readFarm : Cond) ∈ GW := gm_4 (gk_spec (k := 23) (by decide +kernel)) rfl
theorem gw_744 : (.code y_Tx_readFarm b_Tx_readFarm 5 (some .boolean) : Cond) ∈ GW := gm_4 (List.mem_of_getElem? (i := 24) rfl) rfl
theorem gw_745 : (.methodLink "MountainFarms$SlopeText" 123 y_Fa_isFull : Cond) ∈ GW := gm_4 (gk_spec (k := 25) (by decide +kernel)) rfl
theorem gw_746 : (.methodLink "MountainFarms$SlopeText" 32 y_Ta_goToNext : Cond) ∈ GW := gm_4 (gk_spec (k := 26) (by decide +kernel)) rfl
theorem gw_748 : (.methodLink "MountainFarms$SlopeText" 130 y_Ta_numberUpTo : Cond) ∈ GW := gm_4 (gk_spec (k := 28) (by decide +kernel)) rfl
theorem gw_749 : (.instanceMethod y_Ta_numberUpTo : Cond) ∈ GW := gm_4 (gk_spec (k := 29) (by decide +kernel)) rfl
theorem gw_750 : (.selects "MountainFarms$Tape" y_Ta_numberUpTo y_Ta_numberUpTo : Cond) ∈ GW := gm_4 (gk_spec (k := 30) (by decide +kernel)) rfl
theorem gw_751 : (.code y_Ta_numberUpTo b_Ta_numberUpTo 2 (some .int) : Cond) ∈ GW := gm_4 (List.mem_of_getElem? (i := 31) rfl) rfl
theorem gw_752 : (.methodLink "MountainFarms$SlopeText" 134 y_Fa_farmOn : Cond) ∈ GW := gm_4 (gk_spec (k := 32) (by decide +kernel)) rfl
theorem gw_754 : (.methodLink "MountainFarms$SlopeText" 139 y_Fa_add : Cond) ∈ GW := gm_4 (gk_spec (k := 34) (by decide +kernel)) rfl
theorem gw_756 : (.methodLink "MountainFarms$SlopeText" 63 y_Tx_readWall : Cond) ∈ GW := gm_4 (gk_spec (k := 36) (by decide +kernel)) rfl
theorem gw_758 : (.instanceMethod y_Tx_readWall : Cond) ∈ GW := gm_4 (gk_spec (k := 38) (by decide +kernel)) rfl
theorem gw_759 : (.code y_Tx_readWall b_Tx_readWall 4 (some .boolean) : Cond) ∈ GW := gm_4 (List.mem_of_getElem? (i := 39) rfl) rfl
theorem gw_761 : (.methodLink "MountainFarms$SlopeText" 147 y_Gr_putWall : Cond) ∈ GW := gm_4 (gk_spec (k := 41) (by decide +kernel)) rfl
theorem gw_763 : (.methodLink "MountainFarms$SlopeText" 75 y_Tx_readLevel : Cond) ∈ GW := gm_4 (gk_spec (k := 43) (by decide +kernel)) rfl
theorem gw_765 : (.instanceMethod y_Tx_readLevel : Cond) ∈ GW := gm_4 (gk_spec (k := 45) (by decide +kernel)) rfl
theorem gw_766 : (.code y_Tx_readLevel b_Tx_readLevel 4 (some .boolean) : Cond) ∈ GW := gm_4 (List.mem_of_getElem? (i := 46) rfl) rfl
theorem gw_770 : (.methodLink "MountainFarms$SlopeText" 86 y_Tx_readVent : Cond) ∈ GW := gm_4 (gk_spec (k := 50) (by decide +kernel)) rfl
theorem gw_772 : (.instanceMethod y_Tx_readVent : Cond) ∈ GW := gm_4 (gk_spec (k := 52) (by decide +kernel)) rfl
theorem gw_773 : (.code y_Tx_readVent b_Tx_readVent 3 (some .boolean) : Cond) ∈ GW := gm_4 (List.mem_of_getElem? (i := 53) rfl) rfl
theorem gw_775 : (.methodLink "MountainFarms$SlopeText" 95 y_Tx_readTenths : Cond) ∈ GW := gm_4 (gk_spec (k := 55) (by decide +kernel)) rfl
theorem gw_777 : (.instanceMethod y_Tx_readTenths : Cond) ∈ GW := gm_4 (gk_spec (k := 57) (by decide +kernel)) rfl
theorem gw_778 : (.code y_Tx_readTenths b_Tx_readTenths 7 (some .boolean) : Cond) ∈ GW := gm_4 (List.mem_of_getElem? (i := 58) rfl) rfl
theorem gw_779 : (.methodLink "MountainFarms$SlopeText" 157 y_Mo_putTenth : Cond) ∈ GW := gm_4 (gk_spec (k := 59) (by decide +kernel)) rfl
theorem gw_782 : (.methodLink "MountainFarms$SlopeText" 103 y_Tx_readDiary : Cond) ∈ GW := gm_4 (gk_spec (k := 62) (by decide +kernel)) rfl
theorem gw_784 : (.instanceMethod y_Tx_readDiary : Cond) ∈ GW := gm_4 (gk_spec (k := 64) (by decide +kernel)) rfl
theorem gw_785 : (.code y_Tx_readDiary b_Tx_readDiary 4 (some .boolean) : Cond) ∈ GW := gm_4 (List.mem_of_getElem? (i := 65) rfl) rfl
theorem gw_786 : (.methodLink "MountainFarms$SlopeText" 163 y_Ta_isAtNumber : Cond) ∈ GW := gm_4 (gk_spec (k := 66) (by decide +kernel)) rfl
theorem gw_787 : (.instanceMethod y_Ta_isAtNumber : Cond) ∈ GW := gm_4 (gk_spec (k := 67) (by decide +kernel)) rfl
theorem gw_788 : (.selects "MountainFarms$Tape" y_Ta_isAtNumber y_Ta_isAtNumber : Cond) ∈ GW := gm_4 (gk_spec (k := 68) (by decide +kernel)) rfl
theorem gw_789 : (.code y_Ta_isAtNumber b_Ta_isAtNumber 1 (some .boolean) : Cond) ∈ GW := gm_4 (List.mem_of_getElem? (i := 69) rfl) rfl
theorem gw_790 : (.methodLink "MountainFarms$SlopeText" 169 y_Mo_addSign : Cond) ∈ GW := gm_4 (gk_spec (k := 70) (by decide +kernel)) rfl
theorem gw_791 : (.methodLink "MountainFarms$SlopeText" 25 y_Ta_isAtEnd : Cond) ∈ GW := gm_4 (gk_spec (k := 71) (by decide +kernel)) rfl
theorem gw_792 : (.instanceMethod y_Ta_isAtEnd : Cond) ∈ GW := gm_4 (gk_spec (k := 72) (by decide +kernel)) rfl
theorem gw_793 : (.selects "MountainFarms$Tape" y_Ta_isAtEnd y_Ta_isAtEnd : Cond) ∈ GW := gm_4 (gk_spec (k := 73) (by decide +kernel)) rfl
theorem gw_794 : (.code y_Ta_isAtEnd b_Ta_isAtEnd 1 (some .boolean) : Cond) ∈ GW := gm_4 (List.mem_of_getElem? (i := 74) rfl) rfl
theorem gw_795 : (.methodLink "MountainFarms$SlopeText" 29 y_Ta_isAtSemicolon : Cond) ∈ GW := gm_4 (gk_spec (k := 75) (by decide +kernel)) rfl
theorem gw_796 : (.instanceMethod y_Ta_isAtSemicolon : Cond) ∈ GW := gm_4 (gk_spec (k := 76) (by decide +kernel)) rfl
theorem gw_797 : (.selects "MountainFarms$Tape" y_Ta_isAtSemicolon y_Ta_isAtSemicolon : Cond) ∈ GW := gm_4 (gk_spec (k := 77) (by decide +kernel)) rfl
theorem gw_798 : (.code y_Ta_isAtSemicolon b_Ta_isAtSemicolon 1 (some .boolean) : Cond) ∈ GW := gm_4 (List.mem_of_getElem? (i := 78) rfl) rfl
theorem gw_799 : (.arrayClass (Jvm.ClassFile.FieldType.byte) : Cond) ∈ GW := gm_4 (gk_spec (k := 79) (by decide +kernel)) rfl
theorem gw_800 : (.methodLink "MountainFarmsLaw" 170 y_X_sheet : Cond) ∈ GW := gm_4 (gk_spec (k := 80) (by decide +kernel)) rfl
theorem gw_801 : (.instanceMethod y_X_sheet : Cond) ∈ GW := gm_4 (gk_spec (k := 81) (by decide +kernel)) rfl
theorem gw_802 : (.selects "MountainFarms" y_X_sheet y_X_sheet : Cond) ∈ GW := gm_4 (gk_spec (k := 82) (by decide +kernel)) rfl
theorem gw_803 : (.code y_X_sheet b_X_sheet 4 (some .int) : Cond) ∈ GW := gm_4 (List.mem_of_getElem? (i := 83) rfl) rfl
theorem gw_804 : (.methodLink "MountainFarms" 300 y_X_isSheet : Cond) ∈ GW := gm_4 (gk_spec (k := 84) (by decide +kernel)) rfl
theorem gw_805 : (.static y_X_isSheet : Cond) ∈ GW := gm_4 (gk_spec (k := 85) (by decide +kernel)) rfl
theorem gw_806 : (.code y_X_isSheet b_X_isSheet 1 (some .boolean) : Cond) ∈ GW := gm_4 (List.mem_of_getElem? (i := 86) rfl) rfl
theorem gw_807 : (.methodLink "MountainFarms" 303 y_Sh_lay : Cond) ∈ GW := gm_4 (gk_spec (k := 87) (by decide +kernel)) rfl
theorem gw_808 : (.instanceMethod y_Sh_lay : Cond) ∈ GW := gm_4 (gk_spec (k := 88) (by decide +kernel)) rfl
theorem gw_809 : (.selects "MountainFarms$Sheet" y_Sh_lay y_Sh_lay : Cond) ∈ GW := gm_4 (gk_spec (k := 89) (by decide +kernel)) rfl
theorem gw_810 : (.code y_Sh_lay b_Sh_lay 4 none : Cond) ∈ GW := gm_4 (List.mem_of_getElem? (i := 90) rfl) rfl
theorem gw_811 : (.methodLink "MountainFarmsLaw" 176 y_X_write : Cond) ∈ GW := gm_4 (gk_spec (k := 91) (by decide +kernel)) rfl
theorem gw_812 : (.instanceMethod y_X_write : Cond) ∈ GW := gm_4 (gk_spec (k := 92) (by decide +kernel)) rfl
theorem gw_813 : (.selects "MountainFarms" y_X_write y_X_write : Cond) ∈ GW := gm_4 (gk_spec (k := 93) (by decide +kernel)) rfl
theorem gw_814 : (.code y_X_write b_X_write 7 (some .long) : Cond) ∈ GW := gm_4 (List.mem_of_getElem? (i := 94) rfl) rfl
theorem gw_815 : (.methodLink "MountainFarms" 308 y_Sh_isMissing : Cond) ∈ GW := gm_4 (gk_spec (k := 95) (by decide +kernel)) rfl
theorem gw_816 : (.instanceMethod y_Sh_isMissing : Cond) ∈ GW := gm_4 (gk_spec (k := 96) (by decide +kernel)) rfl
theorem gw_817 : (.selects "MountainFarms$Sheet" y_Sh_isMissing y_Sh_isMissing : Cond) ∈ GW := gm_4 (gk_spec (k := 97) (by decide +kernel)) rfl
theorem gw_818 : (.code y_Sh_isMissing b_Sh_isMissing 1 (some .boolean) : Cond) ∈ GW := gm_4 (List.mem_of_getElem? (i := 98) rfl) rfl
theorem gw_819 : (.methodLink "MountainFarms" 314 y_Sh_put : Cond) ∈ GW := gm_4 (gk_spec (k := 99) (by decide +kernel)) rfl
theorem gw_820 : (.instanceMethod y_Sh_put : Cond) ∈ GW := gm_4 (gk_spec (k := 100) (by decide +kernel)) rfl
theorem gw_821 : (.selects "MountainFarms$Sheet" y_Sh_put y_Sh_put : Cond) ∈ GW := gm_4 (gk_spec (k := 101) (by decide +kernel)) rfl
theorem gw_822 : (.code y_Sh_put b_Sh_put 4 none : Cond) ∈ GW := gm_4 (List.mem_of_getElem? (i := 102) rfl) rfl
theorem gw_824 : (.methodLink "MountainFarmsLaw" 181 y_X_copy : Cond) ∈ GW := gm_4 (gk_spec (k := 104) (by decide +kernel)) rfl
theorem gw_825 : (.instanceMethod y_X_copy : Cond) ∈ GW := gm_4 (gk_spec (k := 105) (by decide +kernel)) rfl
theorem gw_826 : (.selects "MountainFarms" y_X_copy y_X_copy : Cond) ∈ GW := gm_4 (gk_spec (k := 106) (by decide +kernel)) rfl
theorem gw_827 : (.code y_X_copy b_X_copy 6 (some .int) : Cond) ∈ GW := gm_4 (List.mem_of_getElem? (i := 107) rfl) rfl
theorem gw_828 : (.methodLink "MountainFarms" 321 y_Sh_hasRun : Cond) ∈ GW := gm_4 (gk_spec (k := 108) (by decide +kernel)) rfl
theorem gw_829 : (.instanceMethod y_Sh_hasRun : Cond) ∈ GW := gm_4 (gk_spec (k := 109) (by decide +kernel)) rfl
theorem gw_830 : (.selects "MountainFarms$Sheet" y_Sh_hasRun y_Sh_hasRun : Cond) ∈ GW := gm_4 (gk_spec (k := 110) (by decide +kernel)) rfl
theorem gw_831 : (.code y_Sh_hasRun b_Sh_hasRun 3 (some .boolean) : Cond) ∈ GW := gm_4 (List.mem_of_getElem? (i := 111) rfl) rfl
theorem gw_832 : (.methodLink "MountainFarms" 324 (⟨"java/lang/System", "arraycopy", "(Ljava/lang/Object;ILjava/lang/Object;II)V"⟩ : MethodName) : Cond) ∈ GW := gm_4 (gk_spec (k := 112) (by decide +kernel)) rfl
theorem gw_833 : (.methodLink "MountainFarmsLaw" 185 y_X_lays : Cond) ∈ GW := gm_4 (gk_spec (k := 113) (by decide +kernel)) rfl
theorem gw_834 : (.instanceMethod y_X_lays : Cond) ∈ GW := gm_4 (gk_spec (k := 114) (by decide +kernel)) rfl
theorem gw_835 : (.selects "MountainFarms" y_X_lays y_X_lays : Cond) ∈ GW := gm_4 (gk_spec (k := 115) (by decide +kernel)) rfl
theorem gw_836 : (.code y_X_lays b_X_lays 6 (some .int) : Cond) ∈ GW := gm_4 (List.mem_of_getElem? (i := 116) rfl) rfl
theorem gw_837 : (.constantLong "MountainFarms" 330 99 : Cond) ∈ GW := gm_4 (gk_spec (k := 117) (by decide +kernel)) rfl
theorem gw_838 : (.methodLink "MountainFarmsLaw" 189 y_X_book : Cond) ∈ GW := gm_4 (gk_spec (k := 118) (by decide +kernel)) rfl
theorem gw_839 : (.instanceMethod y_X_book : Cond) ∈ GW := gm_4 (gk_spec (k := 119) (by decide +kernel)) rfl
theorem gw_840 : (.selects "MountainFarms" y_X_book y_X_book : Cond) ∈ GW := gm_4 (gk_spec (k := 120) (by decide +kernel)) rfl
theorem gw_841 : (.code y_X_book b_X_book 4 (some .int) : Cond) ∈ GW := gm_4 (List.mem_of_getElem? (i := 121) rfl) rfl
theorem gw_842 : (.methodLink "MountainFarmsLaw" 193 y_X_read : Cond) ∈ GW := gm_4 (gk_spec (k := 122) (by decide +kernel)) rfl
theorem gw_843 : (.instanceMethod y_X_read : Cond) ∈ GW := gm_4 (gk_spec (k := 123) (by decide +kernel)) rfl
theorem gw_844 : (.selects "MountainFarms" y_X_read y_X_read : Cond) ∈ GW := gm_4 (gk_spec (k := 124) (by decide +kernel)) rfl
theorem gw_845 : (.code y_X_read b_X_read 3 (some .int) : Cond) ∈ GW := gm_4 (List.mem_of_getElem? (i := 125) rfl) rfl
theorem gw_846 : (.methodLink "MountainFarmsLaw" 197 y_X_image : Cond) ∈ GW := gm_4 (gk_spec (k := 126) (by decide +kernel)) rfl
theorem gw_847 : (.instanceMethod y_X_image : Cond) ∈ GW := gm_4 (gk_spec (k := 127) (by decide +kernel)) rfl
theorem gw_848 : (.selects "MountainFarms" y_X_image y_X_image : Cond) ∈ GW := gm_4 (gk_spec (k := 128) (by decide +kernel)) rfl
theorem gw_849 : (.code y_X_image b_X_image 1 (some .int) : Cond) ∈ GW := gm_4 (List.mem_of_getElem? (i := 129) rfl) rfl
theorem gw_850 : (.methodLink "MountainFarmsLaw" 201 y_X_undo : Cond) ∈ GW := gm_4 (gk_spec (k := 130) (by decide +kernel)) rfl
theorem gw_851 : (.instanceMethod y_X_undo : Cond) ∈ GW := gm_4 (gk_spec (k := 131) (by decide +kernel)) rfl
theorem gw_852 : (.selects "MountainFarms" y_X_undo y_X_undo : Cond) ∈ GW := gm_4 (gk_spec (k := 132) (by decide +kernel)) rfl
theorem gw_853 : (.code y_X_undo b_X_undo 1 (some .int) : Cond) ∈ GW := gm_4 (List.mem_of_getElem? (i := 133) rfl) rfl
theorem gw_854 : (.methodLink "MountainFarmsLaw" 205 y_X_tear : Cond) ∈ GW := gm_4 (gk_spec (k := 134) (by decide +kernel)) rfl
theorem gw_855 : (.instanceMethod y_X_tear : Cond) ∈ GW := gm_4 (gk_spec (k := 135) (by decide +kernel)) rfl
theorem gw_856 : (.selects "MountainFarms" y_X_tear y_X_tear : Cond) ∈ GW := gm_4 (gk_spec (k := 136) (by decide +kernel)) rfl
theorem gw_857 : (.code y_X_tear b_X_tear 2 (some .int) : Cond) ∈ GW := gm_4 (List.mem_of_getElem? (i := 137) rfl) rfl
theorem gw_858 : (.methodLink "MountainFarmsLaw" 209 y_X_count : Cond) ∈ GW := gm_4 (gk_spec (k := 138) (by decide +kernel)) rfl
theorem gw_859 : (.instanceMethod y_X_count : Cond) ∈ GW := gm_4 (gk_spec (k := 139) (by decide +kernel)) rfl
theorem gw_860 : (.selects "MountainFarms" y_X_count y_X_count : Cond) ∈ GW := gm_4 (gk_spec (k := 140) (by decide +kernel)) rfl
theorem gw_861 : (.code y_X_count b_X_count 2 (some .int) : Cond) ∈ GW := gm_4 (List.mem_of_getElem? (i := 141) rfl) rfl
theorem gw_862 : (.methodLink "MountainFarms" 335 y_Gr_countWalls : Cond) ∈ GW := gm_4 (gk_spec (k := 142) (by decide +kernel)) rfl
theorem gw_863 : (.instanceMethod y_Gr_countWalls : Cond) ∈ GW := gm_4 (gk_spec (k := 143) (by decide +kernel)) rfl
theorem gw_864 : (.selects "MountainFarms$Ground" y_Gr_countWalls y_Gr_countWalls : Cond) ∈ GW := gm_4 (gk_spec (k := 144) (by decide +kernel)) rfl
theorem gw_865 : (.code y_Gr_countWalls b_Gr_countWalls 6 (some .int) : Cond) ∈ GW := gm_4 (List.mem_of_getElem? (i := 145) rfl) rfl
theorem gw_866 : (.methodLink "MountainFarms$Ground" 51 y_In_bitCount : Cond) ∈ GW := gm_4 (gk_spec (k := 146) (by decide +kernel)) rfl
theorem gw_867 : (.methodLink "MountainFarmsLaw" 213 y_X_status : Cond) ∈ GW := gm_4 (gk_spec (k := 147) (by decide +kernel)) rfl
theorem gw_868 : (.instanceMethod y_X_status : Cond) ∈ GW := gm_4 (gk_spec (k := 148) (by decide +kernel)) rfl
theorem gw_869 : (.selects "MountainFarms" y_X_status y_X_status : Cond) ∈ GW := gm_4 (gk_spec (k := 149) (by decide +kernel)) rfl
theorem gw_870 : (.code y_X_status b_X_status 7 (some .int) : Cond) ∈ GW := gm_4 (List.mem_of_getElem? (i := 150) rfl) rfl
theorem gw_871 : (.classLink "MountainFarmsLaw" 10 "MountainFarmsModel" : Cond) ∈ GW := gm_4 (gk_spec (k := 151) (by decide +kernel)) rfl
theorem gw_872 : (.instantiable "MountainFarmsModel" 25 : Cond) ∈ GW := gm_4 (gk_spec (k := 152) (by decide +kernel)) rfl
theorem gw_873 : (.methodLink "MountainFarmsLaw" 12 y_M_init : Cond) ∈ GW := gm_4 (gk_spec (k := 153) (by decide +kernel)) rfl
theorem gw_874 : (.instanceMethod y_M_init : Cond) ∈ GW := gm_4 (gk_spec (k := 154) (by decide +kernel)) rfl
theorem gw_875 : (.code y_M_init b_M_init 3 none : Cond) ∈ GW := gm_4 (List.mem_of_getElem? (i := 155) rfl) rfl
theorem gw_876 : (.methodLink "MountainFarmsModel" 1 y_Ob_init : Cond) ∈ GW := gm_4 (gk_spec (k := 156) (by decide +kernel)) rfl
theorem gw_877 : (.classLink "MountainFarmsModel" 38 "java/lang/String" : Cond) ∈ GW := gm_4 (gk_spec (k := 157) (by decide +kernel)) rfl
theorem gw_885 : (.methodLink "MountainFarmsModel" 71 y_Ma_abs : Cond) ∈ GW := gm_4 (gk_spec (k := 165) (by decide +kernel)) rfl
theorem gw_886 : (.methodLink "MountainFarmsModel" 77 y_Ma_max : Cond) ∈ GW := gm_4 (gk_spec (k := 166) (by decide +kernel)) rfl
theorem gw_887 : (.fieldLink "MountainFarmsModel" 9 "MountainFarmsModel" "now" "[I" : Cond) ∈ GW := gm_4 (gk_spec (k := 167) (by decide +kernel)) rfl
theorem gw_888 : (.fieldLink "MountainFarmsModel" 13 "MountainFarmsModel" "kept" "[I" : Cond) ∈ GW := gm_4 (gk_spec (k := 168) (by decide +kernel)) rfl
theorem gw_889 : (.fieldLink "MountainFarmsModel" 16 "MountainFarmsModel" "aside" "[I" : Cond) ∈ GW := gm_4 (gk_spec (k := 169) (by decide +kernel)) rfl
theorem gw_890 : (.fieldLink "MountainFarmsModel" 328 "MountainFarmsModel" "isKept" "Z" : Cond) ∈ GW := gm_4 (gk_spec (k := 170) (by decide +kernel)) rfl
theorem gw_891 : (.fieldLink "MountainFarmsModel" 19 "MountainFarmsModel" "found" "[I" : Cond) ∈ GW := gm_4 (gk_spec (k := 171) (by decide +kernel)) rfl
theorem gw_892 : (.fieldLink "MountainFarmsModel" 22 "MountainFarmsModel" "down" "[I" : Cond) ∈ GW := gm_4 (gk_spec (k := 172) (by decide +kernel)) rfl
theorem gw_893 : (.fieldLink "MountainFarmsModel" 25 "MountainFarmsModel" "along" "[I" : Cond) ∈ GW := gm_4 (gk_spec (k := 173) (by decide +kernel)) rfl
theorem gw_894 : (.fieldLink "MountainFarmsModel" 28 "MountainFarmsModel" "parts" "[J" : Cond) ∈ GW := gm_4 (gk_spec (k := 174) (by decide +kernel)) rfl
theorem gw_895 : (.fieldLink "MountainFarmsModel" 32 "MountainFarmsModel" "gone" "[J" : Cond) ∈ GW := gm_4 (gk_spec (k := 175) (by decide +kernel)) rfl
theorem gw_896 : (.fieldLink "MountainFarmsModel" 35 "MountainFarmsModel" "tape" "[I" : Cond) ∈ GW := gm_4 (gk_spec (k := 176) (by decide +kernel)) rfl
theorem gw_897 : (.fieldLink "MountainFarmsModel" 223 "MountainFarmsModel" "taped" "I" : Cond) ∈ GW := gm_4 (gk_spec (k := 177) (by decide +kernel)) rfl
theorem gw_898 : (.fieldLink "MountainFarmsModel" 230 "MountainFarmsModel" "begins" "I" : Cond) ∈ GW := gm_4 (gk_spec (k := 178) (by decide +kernel)) rfl
theorem gw_899 : (.fieldLink "MountainFarmsModel" 227 "MountainFarmsModel" "ends" "I" : Cond) ∈ GW := gm_4 (gk_spec (k := 179) (by decide +kernel)) rfl
theorem gw_900 : (.fieldLink "MountainFarmsModel" 239 "MountainFarmsModel" "sort" "I" : Cond) ∈ GW := gm_4 (gk_spec (k := 180) (by decide +kernel)) rfl
theorem gw_901 : (.fieldLink "MountainFarmsModel" 236 "MountainFarmsModel" "value" "I" : Cond) ∈ GW := gm_4 (gk_spec (k := 181) (by decide +kernel)) rfl
theorem gw_902 : (.fieldLink "MountainFarmsModel" 249 "MountainFarmsModel" "isWrong" "Z" : Cond) ∈ GW := gm_4 (gk_spec (k := 182) (by decide +kernel)) rfl
theorem gw_903 : (.fieldLink "MountainFarmsModel" 52 "MountainFarmsModel" "kinds" "[Ljava/lang/String;" : Cond) ∈ GW := gm_4 (gk_spec (k := 183) (by decide +kernel)) rfl
theorem gw_904 : (.fieldLink "MountainFarmsModel" 56 "MountainFarmsModel" "items" "[I" : Cond) ∈ GW := gm_4 (gk_spec (k := 184) (by decide +kernel)) rfl
theorem gw_905 : (.fieldLink "MountainFarmsModel" 260 "MountainFarmsModel" "itemMany" "I" : Cond) ∈ GW := gm_4 (gk_spec (k := 185) (by decide +kernel)) rfl
theorem gw_906 : (.fieldLink "MountainFarmsModel" 300 "MountainFarmsModel" "farmMany" "I" : Cond) ∈ GW := gm_4 (gk_spec (k := 186) (by decide +kernel)) rfl
theorem gw_907 : (.fieldLink "MountainFarmsModel" 305 "MountainFarmsModel" "farmCells" "J" : Cond) ∈ GW := gm_4 (gk_spec (k := 187) (by decide +kernel)) rfl
theorem gw_908 : (.fieldLink "MountainFarmsModel" 59 "MountainFarmsModel" "widths" "[I" : Cond) ∈ GW := gm_4 (gk_spec (k := 188) (by decide +kernel)) rfl
theorem gw_909 : (.fieldLink "MountainFarmsModel" 62 "MountainFarmsModel" "sizes" "[I" : Cond) ∈ GW := gm_4 (gk_spec (k := 189) (by decide +kernel)) rfl
theorem gw_910 : (.fieldLink "MountainFarmsModel" 65 "MountainFarmsModel" "numbers" "[J" : Cond) ∈ GW := gm_4 (gk_spec (k := 190) (by decide +kernel)) rfl
theorem gw_911 : (.fieldLink "MountainFarmsModel" 68 "MountainFarmsModel" "moved" "[J" : Cond) ∈ GW := gm_4 (gk_spec (k := 191) (by decide +kernel)) rfl
theorem gw_963 : (.methodLink "MountainFarmsLaw" 17 y_M_set : Cond) ∈ GW := gm_5 (gk_spec (k := 3) (by decide +kernel)) rfl
theorem gw_964 : (.instanceMethod y_M_set : Cond) ∈ GW := gm_5 (gk_spec (k := 4) (by decide +kernel)) rfl
theorem gw_965 : (.selects "MountainFarmsModel" y_M_set y_M_set : Cond) ∈ GW := gm_5 (gk_spec (k := 5) (by decide +kernel)) rfl
theorem gw_966 : (.code y_M_set b_M_set 4 (some .int) : Cond) ∈ GW := gm_5 (List.mem_of_getElem? (i := 6) rfl) rfl
theorem gw_967 : (.methodLink "MountainFarmsModel" 90 y_M_isCell : Cond) ∈ GW := gm_5 (gk_spec (k := 7) (by decide +kernel)) rfl
theorem gw_968 : (.static y_M_isCell : Cond) ∈ GW := gm_5 (gk_spec (k := 8) (by decide +kernel)) rfl
theorem gw_969 : (.code y_M_isCell b_M_isCell 1 (some .boolean) : Cond) ∈ GW := gm_5 (List.mem_of_getElem? (i := 9) rfl) rfl
theorem gw_970 : (.methodLink "MountainFarmsModel" 86 y_M_within : Cond) ∈ GW := gm_5 (gk_spec (k := 10) (by decide +kernel)) rfl
theorem gw_971 : (.static y_M_within : Cond) ∈ GW := gm_5 (gk_spec (k := 11) (by decide +kernel)) rfl
theorem gw_972 : (.code y_M_within b_M_within 3 (some .boolean) : Cond) ∈ GW := gm_5 (List.mem_of_getElem? (i := 12) rfl) rfl
theorem gw_973 : (.constant "MountainFarmsModel" 81 (-1000000001) : Cond) ∈ GW := gm_5 (gk_spec (k := 13) (by decide +kernel)) rfl
theorem gw_974 : (.methodLink "MountainFarmsModel" 94 y_M_finding : Cond) ∈ GW := gm_5 (gk_spec (k := 14) (by decide +kernel)) rfl
theorem gw_976 : (.instanceMethod y_M_finding : Cond) ∈ GW := gm_5 (gk_spec (k := 16) (by decide +kernel)) rfl
theorem gw_977 : (.code y_M_finding b_M_finding 2 (some .int) : Cond) ∈ GW := gm_5 (List.mem_of_getElem? (i := 17) rfl) rfl
theorem gw_978 : (.methodLink "MountainFarmsModel" 97 y_M_become : Cond) ∈ GW := gm_5 (gk_spec (k := 18) (by decide +kernel)) rfl
theorem gw_980 : (.instanceMethod y_M_become : Cond) ∈ GW := gm_5 (gk_spec (k := 20) (by decide +kernel)) rfl
theorem gw_981 : (.code y_M_become b_M_become 4 (some .int) : Cond) ∈ GW := gm_5 (List.mem_of_getElem? (i := 21) rfl) rfl
theorem gw_982 : (.methodLink "MountainFarmsLaw" 22 y_M_cellOf : Cond) ∈ GW := gm_5 (gk_spec (k := 22) (by decide +kernel)) rfl
theorem gw_983 : (.instanceMethod y_M_cellOf : Cond) ∈ GW := gm_5 (gk_spec (k := 23) (by decide +kernel)) rfl
theorem gw_984 : (.selects "MountainFarmsModel" y_M_cellOf y_M_cellOf : Cond) ∈ GW := gm_5 (gk_spec (k := 24) (by decide +kernel)) rfl
theorem gw_985 : (.code y_M_cellOf b_M_cellOf 3 (some .int) : Cond) ∈ GW := gm_5 (List.mem_of_getElem? (i := 25) rfl) rfl
theorem gw_986 : (.methodLink "MountainFarmsModel" 106 y_M_farmAt : Cond) ∈ GW := gm_5 (gk_spec (k := 26) (by decide +kernel)) rfl
theorem gw_988 : (.instanceMethod y_M_farmAt : Cond) ∈ GW := gm_5 (gk_spec (k := 28) (by decide +kernel)) rfl
theorem gw_989 : (.code y_M_farmAt b_M_farmAt 4 (some .int) : Cond) ∈ GW := gm_5 (List.mem_of_getElem? (i := 29) rfl) rfl
theorem gw_990 : (.methodLink "MountainFarmsModel" 103 y_M_farmIs : Cond) ∈ GW := gm_5 (gk_spec (k := 30) (by decide +kernel)) rfl
theorem gw_992 : (.instanceMethod y_M_farmIs : Cond) ∈ GW := gm_5 (gk_spec (k := 32) (by decide +kernel)) rfl
theorem gw_993 : (.code y_M_farmIs b_M_farmIs 3 (some .int) : Cond) ∈ GW := gm_5 (List.mem_of_getElem? (i := 33) rfl) rfl
theorem gw_994 : (.methodLink "MountainFarmsLaw" 27 y_M_vent : Cond) ∈ GW := gm_5 (gk_spec (k := 34) (by decide +kernel)) rfl
theorem gw_995 : (.instanceMethod y_M_vent : Cond) ∈ GW := gm_5 (gk_spec (k := 35) (by decide +kernel)) rfl
theorem gw_996 : (.selects "MountainFarmsModel" y_M_vent y_M_vent : Cond) ∈ GW := gm_5 (gk_spec (k := 36) (by decide +kernel)) rfl
theorem gw_997 : (.code y_M_vent b_M_vent 2 (some .int) : Cond) ∈ GW := gm_5 (List.mem_of_getElem? (i := 37) rfl) rfl
theorem gw_998 : (.methodLink "MountainFarmsLaw" 32 y_M_wall : Cond) ∈ GW := gm_5 (gk_spec (k := 38) (by decide +kernel)) rfl
theorem gw_999 : (.instanceMethod y_M_wall : Cond) ∈ GW := gm_5 (gk_spec (k := 39) (by decide +kernel)) rfl
theorem gw_1000 : (.selects "MountainFarmsModel" y_M_wall y_M_wall : Cond) ∈ GW := gm_5 (gk_spec (k := 40) (by decide +kernel)) rfl
theorem gw_1001 : (.code y_M_wall b_M_wall 6 (some .int) : Cond) ∈ GW := gm_5 (List.mem_of_getElem? (i := 41) rfl) rfl
theorem gw_1002 : (.methodLink "MountainFarmsModel" 109 y_M_wayTo : Cond) ∈ GW := gm_5 (gk_spec (k := 42) (by decide +kernel)) rfl
theorem gw_1004 : (.instanceMethod y_M_wayTo : Cond) ∈ GW := gm_5 (gk_spec (k := 44) (by decide +kernel)) rfl
theorem gw_1005 : (.code y_M_wayTo b_M_wayTo 5 (some .int) : Cond) ∈ GW := gm_5 (List.mem_of_getElem? (i := 45) rfl) rfl
theorem gw_1006 : (.methodLink "MountainFarmsModel" 100 y_M_cellIn : Cond) ∈ GW := gm_5 (gk_spec (k := 46) (by decide +kernel)) rfl
theorem gw_1008 : (.instanceMethod y_M_cellIn : Cond) ∈ GW := gm_5 (gk_spec (k := 48) (by decide +kernel)) rfl
theorem gw_1009 : (.code y_M_cellIn b_M_cellIn 5 (some .int) : Cond) ∈ GW := gm_5 (List.mem_of_getElem? (i := 49) rfl) rfl
theorem gw_1010 : (.methodLink "MountainFarmsModel" 112 y_M_hasWall : Cond) ∈ GW := gm_5 (gk_spec (k := 50) (by decide +kernel)) rfl
theorem gw_1012 : (.instanceMethod y_M_hasWall : Cond) ∈ GW := gm_5 (gk_spec (k := 52) (by decide +kernel)) rfl
theorem gw_1013 : (.code y_M_hasWall b_M_hasWall 3 (some .boolean) : Cond) ∈ GW := gm_5 (List.mem_of_getElem? (i := 53) rfl) rfl
theorem gw_1014 : (.methodLink "MountainFarmsModel" 116 y_M_putWall : Cond) ∈ GW := gm_5 (gk_spec (k := 54) (by decide +kernel)) rfl
theorem gw_1016 : (.instanceMethod y_M_putWall : Cond) ∈ GW := gm_5 (gk_spec (k := 56) (by decide +kernel)) rfl
theorem gw_1017 : (.code y_M_putWall b_M_putWall 6 none : Cond) ∈ GW := gm_5 (List.mem_of_getElem? (i := 57) rfl) rfl
theorem gw_1018 : (.methodLink "MountainFarmsLaw" 36 y_M_farm : Cond) ∈ GW := gm_5 (gk_spec (k := 58) (by decide +kernel)) rfl
theorem gw_1019 : (.instanceMethod y_M_farm : Cond) ∈ GW := gm_5 (gk_spec (k := 59) (by decide +kernel)) rfl
theorem gw_1020 : (.selects "MountainFarmsModel" y_M_farm y_M_farm : Cond) ∈ GW := gm_5 (gk_spec (k := 60) (by decide +kernel)) rfl
theorem gw_1021 : (.code y_M_farm b_M_farm 4 (some .int) : Cond) ∈ GW := gm_5 (List.mem_of_getElem? (i := 61) rfl) rfl
theorem gw_1022 : (.methodLink "MountainFarmsModel" 120 y_M_isKind : Cond) ∈ GW := gm_5 (gk_spec (k := 62) (by decide +kernel)) rfl
theorem gw_1023 : (.static y_M_isKind : Cond) ∈ GW := gm_5 (gk_spec (k := 63) (by decide +kernel)) rfl
theorem gw_1024 : (.code y_M_isKind b_M_isKind 1 (some .boolean) : Cond) ∈ GW := gm_5 (List.mem_of_getElem? (i := 64) rfl) rfl
theorem gw_1025 : (.constant "MountainFarmsModel" 123 (-1000000005) : Cond) ∈ GW := gm_5 (gk_spec (k := 65) (by decide +kernel)) rfl
theorem gw_1026 : (.constant "MountainFarmsModel" 124 (-1000000002) : Cond) ∈ GW := gm_5 (gk_spec (k := 66) (by decide +kernel)) rfl
theorem gw_1027 : (.methodLink "MountainFarmsModel" 125 y_M_built : Cond) ∈ GW := gm_5 (gk_spec (k := 67) (by decide +kernel)) rfl
theorem gw_1029 : (.instanceMethod y_M_built : Cond) ∈ GW := gm_5 (gk_spec (k := 69) (by decide +kernel)) rfl
theorem gw_1030 : (.code y_M_built b_M_built 6 (some .int) : Cond) ∈ GW := gm_5 (List.mem_of_getElem? (i := 70) rfl) rfl
theorem gw_1031 : (.methodLink "MountainFarmsLaw" 40 y_M_of : Cond) ∈ GW := gm_5 (gk_spec (k := 71) (by decide +kernel)) rfl
theorem gw_1032 : (.instanceMethod y_M_of : Cond) ∈ GW := gm_5 (gk_spec (k := 72) (by decide +kernel)) rfl
theorem gw_1033 : (.selects "MountainFarmsModel" y_M_of y_M_of : Cond) ∈ GW := gm_5 (gk_spec (k := 73) (by decide +kernel)) rfl
theorem gw_1034 : (.code y_M_of b_M_of 3 (some .int) : Cond) ∈ GW := gm_5 (List.mem_of_getElem? (i := 74) rfl) rfl
theorem gw_1035 : (.methodLink "MountainFarmsModel" 135 y_M_isFarm : Cond) ∈ GW := gm_5 (gk_spec (k := 75) (by decide +kernel)) rfl
theorem gw_1037 : (.instanceMethod y_M_isFarm : Cond) ∈ GW := gm_5 (gk_spec (k := 77) (by decide +kernel)) rfl
theorem gw_1038 : (.code y_M_isFarm b_M_isFarm 2 (some .boolean) : Cond) ∈ GW := gm_5 (List.mem_of_getElem? (i := 78) rfl) rfl
theorem gw_1039 : (.methodLink "MountainFarmsModel" 138 y_M_bears : Cond) ∈ GW := gm_5 (gk_spec (k := 79) (by decide +kernel)) rfl
theorem gw_1041 : (.instanceMethod y_M_bears : Cond) ∈ GW := gm_5 (gk_spec (k := 81) (by decide +kernel)) rfl
theorem gw_1042 : (.code y_M_bears b_M_bears 2 (some .int) : Cond) ∈ GW := gm_5 (List.mem_of_getElem? (i := 82) rfl) rfl
theorem gw_1043 : (.methodLink "MountainFarmsModel" 132 y_M_bearsAt : Cond) ∈ GW := gm_5 (gk_spec (k := 83) (by decide +kernel)) rfl
theorem gw_1044 : (.static y_M_bearsAt : Cond) ∈ GW := gm_5 (gk_spec (k := 84) (by decide +kernel)) rfl
theorem gw_1045 : (.code y_M_bearsAt b_M_bearsAt 6 (some .int) : Cond) ∈ GW := gm_5 (List.mem_of_getElem? (i := 85) rfl) rfl
theorem gw_1046 : (.methodLink "MountainFarmsModel" 129 y_Ma_min : Cond) ∈ GW := gm_5 (gk_spec (k := 86) (by decide +kernel)) rfl
theorem gw_1047 : (.methodLink "MountainFarmsLaw" 44 y_M_sow : Cond) ∈ GW := gm_5 (gk_spec (k := 87) (by decide +kernel)) rfl
theorem gw_1048 : (.instanceMethod y_M_sow : Cond) ∈ GW := gm_5 (gk_spec (k := 88) (by decide +kernel)) rfl
theorem gw_1049 : (.selects "MountainFarmsModel" y_M_sow y_M_sow : Cond) ∈ GW := gm_5 (gk_spec (k := 89) (by decide +kernel)) rfl
theorem gw_1050 : (.code y_M_sow b_M_sow 3 (some .int) : Cond) ∈ GW := gm_5 (List.mem_of_getElem? (i := 90) rfl) rfl
theorem gw_1051 : (.methodLink "MountainFarmsLaw" 48 y_M_as : Cond) ∈ GW := gm_5 (gk_spec (k := 91) (by decide +kernel)) rfl
theorem gw_1052 : (.instanceMethod y_M_as : Cond) ∈ GW := gm_5 (gk_spec (k := 92) (by decide +kernel)) rfl
theorem gw_1053 : (.selects "MountainFarmsModel" y_M_as y_M_as : Cond) ∈ GW := gm_5 (gk_spec (k := 93) (by decide +kernel)) rfl
theorem gw_1054 : (.code y_M_as b_M_as 4 (some .int) : Cond) ∈ GW := gm_5 (List.mem_of_getElem? (i := 94) rfl) rfl
theorem gw_1055 : (.methodLink "MountainFarmsModel" 141 y_M_above : Cond) ∈ GW := gm_5 (gk_spec (k := 95) (by decide +kernel)) rfl
theorem gw_1056 : (.static y_M_above : Cond) ∈ GW := gm_5 (gk_spec (k := 96) (by decide +kernel)) rfl
theorem gw_1057 : (.code y_M_above b_M_above 1 (some .int) : Cond) ∈ GW := gm_5 (List.mem_of_getElem? (i := 97) rfl) rfl
theorem gw_1058 : (.constant "MountainFarmsModel" 144 (-1000000003) : Cond) ∈ GW := gm_5 (gk_spec (k := 98) (by decide +kernel)) rfl
theorem gw_1059 : (.methodLink "MountainFarmsLaw" 52 y_M_build : Cond) ∈ GW := gm_5 (gk_spec (k := 99) (by decide +kernel)) rfl
theorem gw_1060 : (.instanceMethod y_M_build : Cond) ∈ GW := gm_5 (gk_spec (k := 100) (by decide +kernel)) rfl
theorem gw_1061 : (.selects "MountainFarmsModel" y_M_build y_M_build : Cond) ∈ GW := gm_5 (gk_spec (k := 101) (by decide +kernel)) rfl
theorem gw_1062 : (.code y_M_build b_M_build 3 (some .int) : Cond) ∈ GW := gm_5 (List.mem_of_getElem? (i := 102) rfl) rfl
theorem gw_1063 : (.methodLink "MountainFarmsLaw" 56 y_M_coins : Cond) ∈ GW := gm_5 (gk_spec (k := 103) (by decide +kernel)) rfl
theorem gw_1064 : (.instanceMethod y_M_coins : Cond) ∈ GW := gm_5 (gk_spec (k := 104) (by decide +kernel)) rfl
theorem gw_1065 : (.selects "MountainFarmsModel" y_M_coins y_M_coins : Cond) ∈ GW := gm_5 (gk_spec (k := 105) (by decide +kernel)) rfl
theorem gw_1066 : (.code y_M_coins b_M_coins 2 (some .int) : Cond) ∈ GW := gm_5 (List.mem_of_getElem? (i := 106) rfl) rfl
theorem gw_1067 : (.methodLink "MountainFarmsModel" 145 y_M_coinsOf : Cond) ∈ GW := gm_5 (gk_spec (k := 107) (by decide +kernel)) rfl
theorem gw_1069 : (.instanceMethod y_M_coinsOf : Cond) ∈ GW := gm_5 (gk_spec (k := 109) (by decide +kernel)) rfl
theorem gw_1070 : (.code y_M_coinsOf b_M_coinsOf 4 (some .int) : Cond) ∈ GW := gm_5 (List.mem_of_getElem? (i := 110) rfl) rfl
theorem gw_1071 : (.methodLink "MountainFarmsLaw" 60 y_M_best : Cond) ∈ GW := gm_5 (gk_spec (k := 111) (by decide +kernel)) rfl
theorem gw_1072 : (.instanceMethod y_M_best : Cond) ∈ GW := gm_5 (gk_spec (k := 112) (by decide +kernel)) rfl
theorem gw_1073 : (.selects "MountainFarmsModel" y_M_best y_M_best : Cond) ∈ GW := gm_5 (gk_spec (k := 113) (by decide +kernel)) rfl
theorem gw_1074 : (.code y_M_best b_M_best 5 (some .int) : Cond) ∈ GW := gm_5 (List.mem_of_getElem? (i := 114) rfl) rfl
theorem gw_1075 : (.methodLink "MountainFarmsLaw" 64 y_M_harvest : Cond) ∈ GW := gm_5 (gk_spec (k := 115) (by decide +kernel)) rfl
theorem gw_1076 : (.instanceMethod y_M_harvest : Cond) ∈ GW := gm_5 (gk_spec (k := 116) (by decide +kernel)) rfl
theorem gw_1077 : (.selects "MountainFarmsModel" y_M_harvest y_M_harvest : Cond) ∈ GW := gm_5 (gk_spec (k := 117) (by decide +kernel)) rfl
theorem gw_1078 : (.code y_M_harvest b_M_harvest 6 (some .int) : Cond) ∈ GW := gm_5 (List.mem_of_getElem? (i := 118) rfl) rfl
theorem gw_1079 : (.methodLink "MountainFarmsLaw" 69 y_M_tenths : Cond) ∈ GW := gm_5 (gk_spec (k := 119) (by decide +kernel)) rfl
theorem gw_1080 : (.instanceMethod y_M_tenths : Cond) ∈ GW := gm_5 (gk_spec (k := 120) (by decide +kernel)) rfl
theorem gw_1081 : (.selects "MountainFarmsModel" y_M_tenths y_M_tenths : Cond) ∈ GW := gm_5 (gk_spec (k := 121) (by decide +kernel)) rfl
theorem gw_1082 : (.code y_M_tenths b_M_tenths 9 (some .int) : Cond) ∈ GW := gm_5 (List.mem_of_getElem? (i := 122) rfl) rfl
theorem gw_1083 : (.methodLink "MountainFarmsModel" 148 y_M_isState : Cond) ∈ GW := gm_5 (gk_spec (k := 123) (by decide +kernel)) rfl
theorem gw_1084 : (.static y_M_isState : Cond) ∈ GW := gm_5 (gk_spec (k := 124) (by decide +kernel)) rfl
theorem gw_1085 : (.code y_M_isState b_M_isState 1 (some .boolean) : Cond) ∈ GW := gm_5 (List.mem_of_getElem? (i := 125) rfl) rfl
theorem gw_1086 : (.methodLink "MountainFarmsModel" 151 y_M_putTenths : Cond) ∈ GW := gm_5 (gk_spec (k := 126) (by decide +kernel)) rfl
theorem gw_1088 : (.instanceMethod y_M_putTenths : Cond) ∈ GW := gm_5 (gk_spec (k := 128) (by decide +kernel)) rfl
theorem gw_1089 : (.code y_M_putTenths b_M_putTenths 5 none : Cond) ∈ GW := gm_5 (List.mem_of_getElem? (i := 129) rfl) rfl
theorem gw_1090 : (.methodLink "MountainFarmsLaw" 73 y_M_tenth : Cond) ∈ GW := gm_5 (gk_spec (k := 130) (by decide +kernel)) rfl
theorem gw_1091 : (.instanceMethod y_M_tenth : Cond) ∈ GW := gm_5 (gk_spec (k := 131) (by decide +kernel)) rfl
theorem gw_1092 : (.selects "MountainFarmsModel" y_M_tenth y_M_tenth : Cond) ∈ GW := gm_5 (gk_spec (k := 132) (by decide +kernel)) rfl
theorem gw_1093 : (.code y_M_tenth b_M_tenth 4 (some .int) : Cond) ∈ GW := gm_5 (List.mem_of_getElem? (i := 133) rfl) rfl
theorem gw_1094 : (.methodLink "MountainFarmsLaw" 77 y_M_sees : Cond) ∈ GW := gm_5 (gk_spec (k := 134) (by decide +kernel)) rfl
theorem gw_1095 : (.instanceMethod y_M_sees : Cond) ∈ GW := gm_5 (gk_spec (k := 135) (by decide +kernel)) rfl
theorem gw_1096 : (.selects "MountainFarmsModel" y_M_sees y_M_sees : Cond) ∈ GW := gm_5 (gk_spec (k := 136) (by decide +kernel)) rfl
theorem gw_1097 : (.code y_M_sees b_M_sees 2 (some .int) : Cond) ∈ GW := gm_5 (List.mem_of_getElem? (i := 137) rfl) rfl
theorem gw_1098 : (.methodLink "MountainFarmsLaw" 82 y_M_burn : Cond) ∈ GW := gm_5 (gk_spec (k := 138) (by decide +kernel)) rfl
theorem gw_1099 : (.instanceMethod y_M_burn : Cond) ∈ GW := gm_5 (gk_spec (k := 139) (by decide +kernel)) rfl
theorem gw_1100 : (.selects "MountainFarmsModel" y_M_burn y_M_burn : Cond) ∈ GW := gm_5 (gk_spec (k := 140) (by decide +kernel)) rfl
theorem gw_1101 : (.code y_M_burn b_M_burn 1 (some .int) : Cond) ∈ GW := gm_5 (List.mem_of_getElem? (i := 141) rfl) rfl
theorem gw_1102 : (.methodLink "MountainFarmsLaw" 87 y_M_weight : Cond) ∈ GW := gm_5 (gk_spec (k := 142) (by decide +kernel)) rfl
theorem gw_1103 : (.instanceMethod y_M_weight : Cond) ∈ GW := gm_5 (gk_spec (k := 143) (by decide +kernel)) rfl
theorem gw_1104 : (.selects "MountainFarmsModel" y_M_weight y_M_weight : Cond) ∈ GW := gm_5 (gk_spec (k := 144) (by decide +kernel)) rfl
theorem gw_1105 : (.code y_M_weight b_M_weight 4 (some .long) : Cond) ∈ GW := gm_5 (List.mem_of_getElem? (i := 145) rfl) rfl
theorem gw_1106 : (.methodLink "MountainFarmsModel" 165 y_M_weigh : Cond) ∈ GW := gm_5 (gk_spec (k := 146) (by decide +kernel)) rfl
theorem gw_1108 : (.instanceMethod y_M_weigh : Cond) ∈ GW := gm_5 (gk_spec (k := 148) (by decide +kernel)) rfl
theorem gw_1109 : (.code y_M_weigh b_M_weigh 2 (some .long) : Cond) ∈ GW := gm_5 (List.mem_of_getElem? (i := 149) rfl) rfl
theorem gw_1110 : (.constantLong "MountainFarmsModel" 155 10 : Cond) ∈ GW := gm_5 (gk_spec (k := 150) (by decide +kernel)) rfl
theorem gw_1111 : (.methodLink "MountainFarmsModel" 157 y_M_seen : Cond) ∈ GW := gm_5 (gk_spec (k := 151) (by decide +kernel)) rfl
theorem gw_1113 : (.instanceMethod y_M_seen : Cond) ∈ GW := gm_5 (gk_spec (k := 153) (by decide +kernel)) rfl
theorem gw_1114 : (.code y_M_seen b_M_seen 6 none : Cond) ∈ GW := gm_5 (List.mem_of_getElem? (i := 154) rfl) rfl
theorem gw_1115 : (.methodLink "MountainFarmsModel" 161 y_M_all : Cond) ∈ GW := gm_5 (gk_spec (k := 155) (by decide +kernel)) rfl
theorem gw_1117 : (.instanceMethod y_M_all : Cond) ∈ GW := gm_5 (gk_spec (k := 157) (by decide +kernel)) rfl
theorem gw_1118 : (.code y_M_all b_M_all 1 (some .long) : Cond) ∈ GW := gm_5 (List.mem_of_getElem? (i := 158) rfl) rfl
theorem gw_1119 : (.methodLink "MountainFarmsLaw" 91 y_M_likeliest : Cond) ∈ GW := gm_5 (gk_spec (k := 159) (by decide +kernel)) rfl
theorem gw_1120 : (.instanceMethod y_M_likeliest : Cond) ∈ GW := gm_5 (gk_spec (k := 160) (by decide +kernel)) rfl
theorem gw_1121 : (.selects "MountainFarmsModel" y_M_likeliest y_M_likeliest : Cond) ∈ GW := gm_5 (gk_spec (k := 161) (by decide +kernel)) rfl
theorem gw_1122 : (.code y_M_likeliest b_M_likeliest 3 (some .int) : Cond) ∈ GW := gm_5 (List.mem_of_getElem? (i := 162) rfl) rfl
theorem gw_1123 : (.constant "MountainFarmsModel" 168 (-1000000004) : Cond) ∈ GW := gm_5 (gk_spec (k := 163) (by decide +kernel)) rfl
theorem gw_1124 : (.methodLink "MountainFarmsLaw" 95 y_M_flee : Cond) ∈ GW := gm_5 (gk_spec (k := 164) (by decide +kernel)) rfl
theorem gw_1125 : (.instanceMethod y_M_flee : Cond) ∈ GW := gm_5 (gk_spec (k := 165) (by decide +kernel)) rfl
theorem gw_1126 : (.selects "MountainFarmsModel" y_M_flee y_M_flee : Cond) ∈ GW := gm_5 (gk_spec (k := 166) (by decide +kernel)) rfl
theorem gw_1127 : (.code y_M_flee b_M_flee 4 (some .int) : Cond) ∈ GW := gm_5 (List.mem_of_getElem? (i := 167) rfl) rfl
theorem gw_1128 : (.methodLink "MountainFarmsLaw" 99 y_M_dread : Cond) ∈ GW := gm_5 (gk_spec (k := 168) (by decide +kernel)) rfl
theorem gw_1129 : (.instanceMethod y_M_dread : Cond) ∈ GW := gm_5 (gk_spec (k := 169) (by decide +kernel)) rfl
theorem gw_1130 : (.selects "MountainFarmsModel" y_M_dread y_M_dread : Cond) ∈ GW := gm_5 (gk_spec (k := 170) (by decide +kernel)) rfl
theorem gw_1131 : (.code y_M_dread b_M_dread 9 (some .int) : Cond) ∈ GW := gm_5 (List.mem_of_getElem? (i := 171) rfl) rfl
theorem gw_1132 : (.constantLong "MountainFarmsModel" 169 (-1) : Cond) ∈ GW := gm_5 (gk_spec (k := 172) (by decide +kernel)) rfl
theorem gw_1133 : (.constantLong "MountainFarmsModel" 171 1000 : Cond) ∈ GW := gm_5 (gk_spec (k := 173) (by decide +kernel)) rfl
theorem gw_1134 : (.methodLink "MountainFarmsLaw" 104 y_M_flow : Cond) ∈ GW := gm_5 (gk_spec (k := 174) (by decide +kernel)) rfl
theorem gw_1135 : (.instanceMethod y_M_flow : Cond) ∈ GW := gm_5 (gk_spec (k := 175) (by decide +kernel)) rfl
theorem gw_1136 : (.selects "MountainFarmsModel" y_M_flow y_M_flow : Cond) ∈ GW := gm_5 (gk_spec (k := 176) (by decide +kernel)) rfl
theorem gw_1137 : (.code y_M_flow b_M_flow 3 (some .long) : Cond) ∈ GW := gm_5 (List.mem_of_getElem? (i := 177) rfl) rfl
theorem gw_1138 : (.methodLink "MountainFarmsModel" 180 y_M_isVolume : Cond) ∈ GW := gm_5 (gk_spec (k := 178) (by decide +kernel)) rfl
theorem gw_1139 : (.static y_M_isVolume : Cond) ∈ GW := gm_5 (gk_spec (k := 179) (by decide +kernel)) rfl
theorem gw_1140 : (.code y_M_isVolume b_M_isVolume 1 (some .boolean) : Cond) ∈ GW := gm_5 (List.mem_of_getElem? (i := 180) rfl) rfl
theorem gw_1141 : (.methodLink "MountainFarmsModel" 183 y_M_asked : Cond) ∈ GW := gm_5 (gk_spec (k := 181) (by decide +kernel)) rfl
theorem gw_1143 : (.instanceMethod y_M_asked : Cond) ∈ GW := gm_5 (gk_spec (k := 183) (by decide +kernel)) rfl
theorem gw_1144 : (.code y_M_asked b_M_asked 5 (some .long) : Cond) ∈ GW := gm_5 (List.mem_of_getElem? (i := 184) rfl) rfl
theorem gw_1145 : (.methodLink "MountainFarmsModel" 82 y_M_copyRow : Cond) ∈ GW := gm_5 (gk_spec (k := 185) (by decide +kernel)) rfl
theorem gw_1146 : (.static y_M_copyRow : Cond) ∈ GW := gm_5 (gk_spec (k := 186) (by decide +kernel)) rfl
theorem gw_1147 : (.code y_M_copyRow b_M_copyRow 3 none : Cond) ∈ GW := gm_5 (List.mem_of_getElem? (i := 187) rfl) rfl
theorem gw_1148 : (.methodLink "MountainFarmsModel" 176 y_M_lava : Cond) ∈ GW := gm_5 (gk_spec (k := 188) (by decide +kernel)) rfl
theorem gw_1150 : (.instanceMethod y_M_lava : Cond) ∈ GW := gm_5 (gk_spec (k := 190) (by decide +kernel)) rfl
theorem gw_1151 : (.code y_M_lava b_M_lava 8 (some .long) : Cond) ∈ GW := gm_5 (List.mem_of_getElem? (i := 191) rfl) rfl
theorem gw_1152 : (.methodLink "MountainFarmsModel" 173 y_M_flowsTo : Cond) ∈ GW := gm_5 (gk_spec (k := 192) (by decide +kernel)) rfl
theorem gw_1154 : (.instanceMethod y_M_flowsTo : Cond) ∈ GW := gm_5 (gk_spec (k := 194) (by decide +kernel)) rfl
theorem gw_1155 : (.code y_M_flowsTo b_M_flowsTo 5 (some .int) : Cond) ∈ GW := gm_5 (List.mem_of_getElem? (i := 195) rfl) rfl
theorem gw_1156 : (.methodLink "MountainFarmsLaw" 108 y_M_hit : Cond) ∈ GW := gm_5 (gk_spec (k := 196) (by decide +kernel)) rfl
theorem gw_1157 : (.instanceMethod y_M_hit : Cond) ∈ GW := gm_5 (gk_spec (k := 197) (by decide +kernel)) rfl
theorem gw_1158 : (.selects "MountainFarmsModel" y_M_hit y_M_hit : Cond) ∈ GW := gm_5 (gk_spec (k := 198) (by decide +kernel)) rfl
theorem gw_1159 : (.code y_M_hit b_M_hit 2 (some .int) : Cond) ∈ GW := gm_5 (List.mem_of_getElem? (i := 199) rfl) rfl
theorem gw_1160 : (.methodLink "MountainFarmsModel" 186 y_M_hits : Cond) ∈ GW := gm_5 (gk_spec (k := 200) (by decide +kernel)) rfl
theorem gw_1162 : (.instanceMethod y_M_hits : Cond) ∈ GW := gm_5 (gk_spec (k := 202) (by decide +kernel)) rfl
theorem gw_1163 : (.code y_M_hits b_M_hits 6 (some .int) : Cond) ∈ GW := gm_5 (List.mem_of_getElem? (i := 203) rfl) rfl
theorem gw_1164 : (.methodLink "MountainFarmsLaw" 112 y_M_least : Cond) ∈ GW := gm_5 (gk_spec (k := 204) (by decide +kernel)) rfl
theorem gw_1165 : (.instanceMethod y_M_least : Cond) ∈ GW := gm_5 (gk_spec (k := 205) (by decide +kernel)) rfl
theorem gw_1166 : (.selects "MountainFarmsModel" y_M_least y_M_least : Cond) ∈ GW := gm_5 (gk_spec (k := 206) (by decide +kernel)) rfl
theorem gw_1167 : (.code y_M_least b_M_least 3 (some .int) : Cond) ∈ GW := gm_5 (List.mem_of_getElem? (i := 207) rfl) rfl
theorem gw_1168 : (.methodLink "MountainFarmsLaw" 116 y_M_turnsOn : Cond) ∈ GW := gm_5 (gk_spec (k := 208) (by decide +kernel)) rfl
theorem gw_1169 : (.instanceMethod y_M_turnsOn : Cond) ∈ GW := gm_5 (gk_spec (k := 209) (by decide +kernel)) rfl
theorem gw_1170 : (.selects "MountainFarmsModel" y_M_turnsOn y_M_turnsOn : Cond) ∈ GW := gm_5 (gk_spec (k := 210) (by decide +kernel)) rfl
theorem gw_1171 : (.code y_M_turnsOn b_M_turnsOn 6 (some .int) : Cond) ∈ GW := gm_5 (List.mem_of_getElem? (i := 211) rfl) rfl
theorem gw_1172 : (.methodLink "MountainFarmsModel" 189 y_M_hitsWith : Cond) ∈ GW := gm_5 (gk_spec (k := 212) (by decide +kernel)) rfl
theorem gw_1174 : (.instanceMethod y_M_hitsWith : Cond) ∈ GW := gm_5 (gk_spec (k := 214) (by decide +kernel)) rfl
theorem gw_1175 : (.code y_M_hitsWith b_M_hitsWith 5 (some .int) : Cond) ∈ GW := gm_5 (List.mem_of_getElem? (i := 215) rfl) rfl
theorem gw_1176 : (.methodLink "MountainFarmsLaw" 120 y_M_save : Cond) ∈ GW := gm_5 (gk_spec (k := 216) (by decide +kernel)) rfl
theorem gw_1177 : (.instanceMethod y_M_save : Cond) ∈ GW := gm_5 (gk_spec (k := 217) (by decide +kernel)) rfl
theorem gw_1178 : (.selects "MountainFarmsModel" y_M_save y_M_save : Cond) ∈ GW := gm_5 (gk_spec (k := 218) (by decide +kernel)) rfl
theorem gw_1179 : (.code y_M_save b_M_save 6 (some .int) : Cond) ∈ GW := gm_5 (List.mem_of_getElem? (i := 219) rfl) rfl
theorem gw_1180 : (.methodLink "MountainFarmsModel" 192 y_M_bits : Cond) ∈ GW := gm_5 (gk_spec (k := 220) (by decide +kernel)) rfl
theorem gw_1181 : (.static y_M_bits : Cond) ∈ GW := gm_5 (gk_spec (k := 221) (by decide +kernel)) rfl
theorem gw_1182 : (.code y_M_bits b_M_bits 3 (some .int) : Cond) ∈ GW := gm_5 (List.mem_of_getElem? (i := 222) rfl) rfl
theorem gw_1183 : (.methodLink "MountainFarmsLaw" 124 y_M_volume : Cond) ∈ GW := gm_5 (gk_spec (k := 223) (by decide +kernel)) rfl
theorem gw_1184 : (.instanceMethod y_M_volume : Cond) ∈ GW := gm_5 (gk_spec (k := 224) (by decide +kernel)) rfl
theorem gw_1185 : (.selects "MountainFarmsModel" y_M_volume y_M_volume : Cond) ∈ GW := gm_5 (gk_spec (k := 225) (by decide +kernel)) rfl
theorem gw_1186 : (.code y_M_volume b_M_volume 2 (some .int) : Cond) ∈ GW := gm_5 (List.mem_of_getElem? (i := 226) rfl) rfl
theorem gw_1187 : (.methodLink "MountainFarmsLaw" 129 y_M_pigs : Cond) ∈ GW := gm_5 (gk_spec (k := 227) (by decide +kernel)) rfl
theorem gw_1188 : (.instanceMethod y_M_pigs : Cond) ∈ GW := gm_5 (gk_spec (k := 228) (by decide +kernel)) rfl
theorem gw_1189 : (.selects "MountainFarmsModel" y_M_pigs y_M_pigs : Cond) ∈ GW := gm_5 (gk_spec (k := 229) (by decide +kernel)) rfl
theorem gw_1190 : (.code y_M_pigs b_M_pigs 3 (some .int) : Cond) ∈ GW := gm_5 (List.mem_of_getElem? (i := 230) rfl) rfl
theorem gw_1191 : (.methodLink "MountainFarmsLaw" 133 y_M_months : Cond) ∈ GW := gm_5 (gk_spec (k := 231) (by decide +kernel)) rfl
theorem gw_1192 : (.instanceMethod y_M_months : Cond) ∈ GW := gm_5 (gk_spec (k := 232) (by decide +kernel)) rfl
theorem gw_1193 : (.selects "MountainFarmsModel" y_M_months y_M_months : Cond) ∈ GW := gm_5 (gk_spec (k := 233) (by decide +kernel)) rfl
theorem gw_1194 : (.code y_M_months b_M_months 2 (some .int) : Cond) ∈ GW := gm_5 (List.mem_of_getElem? (i := 234) rfl) rfl
theorem gw_1195 : (.methodLink "MountainFarmsModel" 209 y_M_isTooLate : Cond) ∈ GW := gm_5 (gk_spec (k := 235) (by decide +kernel)) rfl
theorem gw_1197 : (.instanceMethod y_M_isTooLate : Cond) ∈ GW := gm_5 (gk_spec (k := 237) (by decide +kernel)) rfl
theorem gw_1198 : (.code y_M_isTooLate b_M_isTooLate 2 (some .boolean) : Cond) ∈ GW := gm_5 (List.mem_of_getElem? (i := 238) rfl) rfl
theorem gw_1199 : (.methodLink "MountainFarmsModel" 212 y_M_monthsGo : Cond) ∈ GW := gm_5 (gk_spec (k := 239) (by decide +kernel)) rfl
theorem gw_1201 : (.instanceMethod y_M_monthsGo : Cond) ∈ GW := gm_6 (gk_spec (k := 1) (by decide +kernel)) rfl
theorem gw_1202 : (.code y_M_monthsGo b_M_monthsGo 4 (some .int) : Cond) ∈ GW := gm_6 (List.mem_of_getElem? (i := 2) rfl) rfl
theorem gw_1203 : (.methodLink "MountainFarmsModel" 205 y_M_month : Cond) ∈ GW := gm_6 (gk_spec (k := 3) (by decide +kernel)) rfl
theorem gw_1205 : (.instanceMethod y_M_month : Cond) ∈ GW := gm_6 (gk_spec (k := 5) (by decide +kernel)) rfl
theorem gw_1206 : (.code y_M_month b_M_month 7 (some .int) : Cond) ∈ GW := gm_6 (List.mem_of_getElem? (i := 6) rfl) rfl
theorem gw_1207 : (.methodLink "MountainFarmsModel" 196 y_M_drawn : Cond) ∈ GW := gm_6 (gk_spec (k := 7) (by decide +kernel)) rfl
theorem gw_1209 : (.instanceMethod y_M_drawn : Cond) ∈ GW := gm_6 (gk_spec (k := 9) (by decide +kernel)) rfl
theorem gw_1210 : (.code y_M_drawn b_M_drawn 2 (some .int) : Cond) ∈ GW := gm_6 (List.mem_of_getElem? (i := 10) rfl) rfl
theorem gw_1211 : (.constant "MountainFarmsModel" 195 1103515245 : Cond) ∈ GW := gm_6 (gk_spec (k := 11) (by decide +kernel)) rfl
theorem gw_1212 : (.methodLink "MountainFarmsModel" 199 y_M_comesOut : Cond) ∈ GW := gm_6 (gk_spec (k := 12) (by decide +kernel)) rfl
theorem gw_1214 : (.instanceMethod y_M_comesOut : Cond) ∈ GW := gm_6 (gk_spec (k := 14) (by decide +kernel)) rfl
theorem gw_1215 : (.code y_M_comesOut b_M_comesOut 4 none : Cond) ∈ GW := gm_6 (List.mem_of_getElem? (i := 15) rfl) rfl
theorem gw_1216 : (.methodLink "MountainFarmsModel" 202 y_M_yearIsOver : Cond) ∈ GW := gm_6 (gk_spec (k := 16) (by decide +kernel)) rfl
theorem gw_1218 : (.instanceMethod y_M_yearIsOver : Cond) ∈ GW := gm_6 (gk_spec (k := 18) (by decide +kernel)) rfl
theorem gw_1219 : (.code y_M_yearIsOver b_M_yearIsOver 2 none : Cond) ∈ GW := gm_6 (List.mem_of_getElem? (i := 19) rfl) rfl
theorem gw_1220 : (.methodLink "MountainFarmsLaw" 137 y_M_seed : Cond) ∈ GW := gm_6 (gk_spec (k := 20) (by decide +kernel)) rfl
theorem gw_1221 : (.instanceMethod y_M_seed : Cond) ∈ GW := gm_6 (gk_spec (k := 21) (by decide +kernel)) rfl
theorem gw_1222 : (.selects "MountainFarmsModel" y_M_seed y_M_seed : Cond) ∈ GW := gm_6 (gk_spec (k := 22) (by decide +kernel)) rfl
theorem gw_1223 : (.code y_M_seed b_M_seed 2 (some .int) : Cond) ∈ GW := gm_6 (List.mem_of_getElem? (i := 23) rfl) rfl
theorem gw_1224 : (.methodLink "MountainFarmsLaw" 141 y_M_now : Cond) ∈ GW := gm_6 (gk_spec (k := 24) (by decide +kernel)) rfl
theorem gw_1225 : (.instanceMethod y_M_now : Cond) ∈ GW := gm_6 (gk_spec (k := 25) (by decide +kernel)) rfl
theorem gw_1226 : (.selects "MountainFarmsModel" y_M_now y_M_now : Cond) ∈ GW := gm_6 (gk_spec (k := 26) (by decide +kernel)) rfl
theorem gw_1227 : (.code y_M_now b_M_now 2 (some .int) : Cond) ∈ GW := gm_6 (List.mem_of_getElem? (i := 27) rfl) rfl
theorem gw_1228 : (.methodLink "MountainFarmsLaw" 145 y_M_doPigs : Cond) ∈ GW := gm_6 (gk_spec (k := 28) (by decide +kernel)) rfl
theorem gw_1229 : (.instanceMethod y_M_doPigs : Cond) ∈ GW := gm_6 (gk_spec (k := 29) (by decide +kernel)) rfl
theorem gw_1230 : (.selects "MountainFarmsModel" y_M_doPigs y_M_doPigs : Cond) ∈ GW := gm_6 (gk_spec (k := 30) (by decide +kernel)) rfl
theorem gw_1231 : (.code y_M_doPigs b_M_doPigs 2 (some .int) : Cond) ∈ GW := gm_6 (List.mem_of_getElem? (i := 31) rfl) rfl
theorem gw_1232 : (.methodLink "MountainFarmsModel" 215 y_In_compare : Cond) ∈ GW := gm_6 (gk_spec (k := 32) (by decide +kernel)) rfl
theorem gw_1233 : (.static y_In_compare : Cond) ∈ GW := gm_6 (gk_spec (k := 33) (by decide +kernel)) rfl
theorem gw_1234 : (.code y_In_compare b_In_compare 2 (some .int) : Cond) ∈ GW := gm_6 (List.mem_of_getElem? (i := 34) rfl) rfl
theorem gw_1235 : (.methodLink "MountainFarmsLaw" 149 y_M_out : Cond) ∈ GW := gm_6 (gk_spec (k := 35) (by decide +kernel)) rfl
theorem gw_1236 : (.instanceMethod y_M_out : Cond) ∈ GW := gm_6 (gk_spec (k := 36) (by decide +kernel)) rfl
theorem gw_1237 : (.selects "MountainFarmsModel" y_M_out y_M_out : Cond) ∈ GW := gm_6 (gk_spec (k := 37) (by decide +kernel)) rfl
theorem gw_1238 : (.code y_M_out b_M_out 2 (some .int) : Cond) ∈ GW := gm_6 (List.mem_of_getElem? (i := 38) rfl) rfl
theorem gw_1239 : (.methodLink "MountainFarmsModel" 220 y_M_putBack : Cond) ∈ GW := gm_6 (gk_spec (k := 39) (by decide +kernel)) rfl
theorem gw_1241 : (.instanceMethod y_M_putBack : Cond) ∈ GW := gm_6 (gk_spec (k := 41) (by decide +kernel)) rfl
theorem gw_1242 : (.code y_M_putBack b_M_putBack 2 (some .int) : Cond) ∈ GW := gm_6 (List.mem_of_getElem? (i := 42) rfl) rfl
theorem gw_1243 : (.methodLink "MountainFarmsLaw" 153 y_M_on : Cond) ∈ GW := gm_6 (gk_spec (k := 43) (by decide +kernel)) rfl
theorem gw_1244 : (.instanceMethod y_M_on : Cond) ∈ GW := gm_6 (gk_spec (k := 44) (by decide +kernel)) rfl
theorem gw_1245 : (.selects "MountainFarmsModel" y_M_on y_M_on : Cond) ∈ GW := gm_6 (gk_spec (k := 45) (by decide +kernel)) rfl
theorem gw_1246 : (.code y_M_on b_M_on 5 (some .int) : Cond) ∈ GW := gm_6 (List.mem_of_getElem? (i := 46) rfl) rfl
theorem gw_1247 : (.methodLink "MountainFarmsLaw" 157 y_M_crop : Cond) ∈ GW := gm_6 (gk_spec (k := 47) (by decide +kernel)) rfl
theorem gw_1248 : (.instanceMethod y_M_crop : Cond) ∈ GW := gm_6 (gk_spec (k := 48) (by decide +kernel)) rfl
theorem gw_1249 : (.selects "MountainFarmsModel" y_M_crop y_M_crop : Cond) ∈ GW := gm_6 (gk_spec (k := 49) (by decide +kernel)) rfl
theorem gw_1250 : (.code y_M_crop b_M_crop 6 (some .int) : Cond) ∈ GW := gm_6 (List.mem_of_getElem? (i := 50) rfl) rfl
theorem gw_1251 : (.methodLink "MountainFarmsLaw" 161 y_M_feed : Cond) ∈ GW := gm_6 (gk_spec (k := 51) (by decide +kernel)) rfl
theorem gw_1252 : (.instanceMethod y_M_feed : Cond) ∈ GW := gm_6 (gk_spec (k := 52) (by decide +kernel)) rfl
theorem gw_1253 : (.selects "MountainFarmsModel" y_M_feed y_M_feed : Cond) ∈ GW := gm_6 (gk_spec (k := 53) (by decide +kernel)) rfl
theorem gw_1254 : (.code y_M_feed b_M_feed 4 (some .int) : Cond) ∈ GW := gm_6 (List.mem_of_getElem? (i := 54) rfl) rfl
theorem gw_1255 : (.methodLink "MountainFarmsLaw" 165 y_M_wipe : Cond) ∈ GW := gm_6 (gk_spec (k := 55) (by decide +kernel)) rfl
theorem gw_1256 : (.instanceMethod y_M_wipe : Cond) ∈ GW := gm_6 (gk_spec (k := 56) (by decide +kernel)) rfl
theorem gw_1257 : (.selects "MountainFarmsModel" y_M_wipe y_M_wipe : Cond) ∈ GW := gm_6 (gk_spec (k := 57) (by decide +kernel)) rfl
theorem gw_1258 : (.code y_M_wipe b_M_wipe 2 (some .int) : Cond) ∈ GW := gm_6 (List.mem_of_getElem? (i := 58) rfl) rfl
theorem gw_1259 : (.methodLink "MountainFarmsLaw" 169 y_M_slope : Cond) ∈ GW := gm_6 (gk_spec (k := 59) (by decide +kernel)) rfl
theorem gw_1260 : (.instanceMethod y_M_slope : Cond) ∈ GW := gm_6 (gk_spec (k := 60) (by decide +kernel)) rfl
theorem gw_1261 : (.selects "MountainFarmsModel" y_M_slope y_M_slope : Cond) ∈ GW := gm_6 (gk_spec (k := 61) (by decide +kernel)) rfl
theorem gw_1262 : (.code y_M_slope b_M_slope 2 (some .int) : Cond) ∈ GW := gm_6 (List.mem_of_getElem? (i := 62) rfl) rfl
theorem gw_1263 : (.methodLink "MountainFarmsModel" 253 y_M_next : Cond) ∈ GW := gm_6 (gk_spec (k := 63) (by decide +kernel)) rfl
theorem gw_1265 : (.instanceMethod y_M_next : Cond) ∈ GW := gm_6 (gk_spec (k := 65) (by decide +kernel)) rfl
theorem gw_1266 : (.code y_M_next b_M_next 2 none : Cond) ∈ GW := gm_6 (List.mem_of_getElem? (i := 66) rfl) rfl
theorem gw_1267 : (.methodLink "MountainFarmsModel" 233 y_M_byteAt : Cond) ∈ GW := gm_6 (gk_spec (k := 67) (by decide +kernel)) rfl
theorem gw_1269 : (.instanceMethod y_M_byteAt : Cond) ∈ GW := gm_6 (gk_spec (k := 69) (by decide +kernel)) rfl
theorem gw_1270 : (.code y_M_byteAt b_M_byteAt 2 (some .int) : Cond) ∈ GW := gm_6 (List.mem_of_getElem? (i := 70) rfl) rfl
theorem gw_1271 : (.methodLink "MountainFarmsModel" 311 y_M_readItem : Cond) ∈ GW := gm_6 (gk_spec (k := 71) (by decide +kernel)) rfl
theorem gw_1273 : (.instanceMethod y_M_readItem : Cond) ∈ GW := gm_6 (gk_spec (k := 73) (by decide +kernel)) rfl
theorem gw_1274 : (.code y_M_readItem b_M_readItem 4 none : Cond) ∈ GW := gm_6 (List.mem_of_getElem? (i := 74) rfl) rfl
theorem gw_1275 : (.methodLink "MountainFarmsModel" 267 y_M_kindTold : Cond) ∈ GW := gm_6 (gk_spec (k := 75) (by decide +kernel)) rfl
theorem gw_1277 : (.instanceMethod y_M_kindTold : Cond) ∈ GW := gm_6 (gk_spec (k := 77) (by decide +kernel)) rfl
theorem gw_1278 : (.code y_M_kindTold b_M_kindTold 3 (some .int) : Cond) ∈ GW := gm_6 (List.mem_of_getElem? (i := 78) rfl) rfl
theorem gw_1279 : (.methodLink "MountainFarmsModel" 263 y_M_isWord : Cond) ∈ GW := gm_6 (gk_spec (k := 79) (by decide +kernel)) rfl
theorem gw_1281 : (.instanceMethod y_M_isWord : Cond) ∈ GW := gm_6 (gk_spec (k := 81) (by decide +kernel)) rfl
theorem gw_1282 : (.code y_M_isWord b_M_isWord 4 (some .boolean) : Cond) ∈ GW := gm_6 (List.mem_of_getElem? (i := 82) rfl) rfl
theorem gw_1283 : (.methodLink "MountainFarmsModel" 242 y_Sg_length : Cond) ∈ GW := gm_6 (gk_spec (k := 83) (by decide +kernel)) rfl
theorem gw_1284 : (.methodLink "MountainFarmsModel" 245 y_Sg_charAt : Cond) ∈ GW := gm_6 (gk_spec (k := 84) (by decide +kernel)) rfl
theorem gw_1285 : (.methodLink "MountainFarmsModel" 270 y_M_readFarm : Cond) ∈ GW := gm_6 (gk_spec (k := 85) (by decide +kernel)) rfl
theorem gw_1287 : (.instanceMethod y_M_readFarm : Cond) ∈ GW := gm_6 (gk_spec (k := 87) (by decide +kernel)) rfl
theorem gw_1288 : (.code y_M_readFarm b_M_readFarm 4 none : Cond) ∈ GW := gm_6 (List.mem_of_getElem? (i := 88) rfl) rfl
theorem gw_1289 : (.methodLink "MountainFarmsModel" 256 y_M_must : Cond) ∈ GW := gm_6 (gk_spec (k := 89) (by decide +kernel)) rfl
theorem gw_1291 : (.instanceMethod y_M_must : Cond) ∈ GW := gm_6 (gk_spec (k := 91) (by decide +kernel)) rfl
theorem gw_1292 : (.code y_M_must b_M_must 2 none : Cond) ∈ GW := gm_6 (List.mem_of_getElem? (i := 92) rfl) rfl
theorem gw_1295 : (.methodLink "MountainFarmsModel" 275 y_M_number : Cond) ∈ GW := gm_6 (gk_spec (k := 95) (by decide +kernel)) rfl
theorem gw_1297 : (.instanceMethod y_M_number : Cond) ∈ GW := gm_6 (gk_spec (k := 97) (by decide +kernel)) rfl
theorem gw_1298 : (.code y_M_number b_M_number 4 (some .int) : Cond) ∈ GW := gm_6 (List.mem_of_getElem? (i := 98) rfl) rfl
theorem gw_1299 : (.methodLink "MountainFarmsModel" 278 y_M_item : Cond) ∈ GW := gm_6 (gk_spec (k := 99) (by decide +kernel)) rfl
theorem gw_1301 : (.instanceMethod y_M_item : Cond) ∈ GW := gm_6 (gk_spec (k := 101) (by decide +kernel)) rfl
theorem gw_1302 : (.code y_M_item b_M_item 8 none : Cond) ∈ GW := gm_6 (List.mem_of_getElem? (i := 102) rfl) rfl
theorem gw_1309 : (.methodLink "MountainFarmsModel" 292 y_M_readTenths : Cond) ∈ GW := gm_6 (gk_spec (k := 109) (by decide +kernel)) rfl
theorem gw_1311 : (.instanceMethod y_M_readTenths : Cond) ∈ GW := gm_6 (gk_spec (k := 111) (by decide +kernel)) rfl
theorem gw_1312 : (.code y_M_readTenths b_M_readTenths 7 none : Cond) ∈ GW := gm_6 (List.mem_of_getElem? (i := 112) rfl) rfl
theorem gw_1314 : (.methodLink "MountainFarmsModel" 297 y_M_readSees : Cond) ∈ GW := gm_6 (gk_spec (k := 114) (by decide +kernel)) rfl
theorem gw_1316 : (.instanceMethod y_M_readSees : Cond) ∈ GW := gm_6 (gk_spec (k := 116) (by decide +kernel)) rfl
theorem gw_1317 : (.code y_M_readSees b_M_readSees 4 none : Cond) ∈ GW := gm_6 (List.mem_of_getElem? (i := 117) rfl) rfl
theorem gw_1318 : (.methodLink "MountainFarmsModel" 314 y_M_isSo : Cond) ∈ GW := gm_6 (gk_spec (k := 118) (by decide +kernel)) rfl
theorem gw_1320 : (.instanceMethod y_M_isSo : Cond) ∈ GW := gm_6 (gk_spec (k := 120) (by decide +kernel)) rfl
theorem gw_1321 : (.code y_M_isSo b_M_isSo 6 none : Cond) ∈ GW := gm_6 (List.mem_of_getElem? (i := 121) rfl) rfl
theorem gw_1322 : (.methodLink "MountainFarmsLaw" 173 y_M_sheet : Cond) ∈ GW := gm_6 (gk_spec (k := 122) (by decide +kernel)) rfl
theorem gw_1323 : (.instanceMethod y_M_sheet : Cond) ∈ GW := gm_6 (gk_spec (k := 123) (by decide +kernel)) rfl
theorem gw_1324 : (.selects "MountainFarmsModel" y_M_sheet y_M_sheet : Cond) ∈ GW := gm_6 (gk_spec (k := 124) (by decide +kernel)) rfl
theorem gw_1325 : (.code y_M_sheet b_M_sheet 5 (some .int) : Cond) ∈ GW := gm_6 (List.mem_of_getElem? (i := 125) rfl) rfl
theorem gw_1326 : (.methodLink "MountainFarmsModel" 317 y_M_isSheet : Cond) ∈ GW := gm_6 (gk_spec (k := 126) (by decide +kernel)) rfl
theorem gw_1327 : (.static y_M_isSheet : Cond) ∈ GW := gm_6 (gk_spec (k := 127) (by decide +kernel)) rfl
theorem gw_1328 : (.code y_M_isSheet b_M_isSheet 1 (some .boolean) : Cond) ∈ GW := gm_6 (List.mem_of_getElem? (i := 128) rfl) rfl
theorem gw_1329 : (.constant "MountainFarmsModel" 320 (-1000000007) : Cond) ∈ GW := gm_6 (gk_spec (k := 129) (by decide +kernel)) rfl
theorem gw_1330 : (.methodLink "MountainFarmsLaw" 180 y_M_write : Cond) ∈ GW := gm_6 (gk_spec (k := 130) (by decide +kernel)) rfl
theorem gw_1331 : (.instanceMethod y_M_write : Cond) ∈ GW := gm_6 (gk_spec (k := 131) (by decide +kernel)) rfl
theorem gw_1332 : (.selects "MountainFarmsModel" y_M_write y_M_write : Cond) ∈ GW := gm_6 (gk_spec (k := 132) (by decide +kernel)) rfl
theorem gw_1333 : (.code y_M_write b_M_write 7 (some .long) : Cond) ∈ GW := gm_6 (List.mem_of_getElem? (i := 133) rfl) rfl
theorem gw_1334 : (.constant "MountainFarmsModel" 321 (-1000000006) : Cond) ∈ GW := gm_6 (gk_spec (k := 134) (by decide +kernel)) rfl
theorem gw_1335 : (.methodLink "MountainFarmsModel" 322 y_M_cutTo : Cond) ∈ GW := gm_6 (gk_spec (k := 135) (by decide +kernel)) rfl
theorem gw_1336 : (.static y_M_cutTo : Cond) ∈ GW := gm_6 (gk_spec (k := 136) (by decide +kernel)) rfl
theorem gw_1337 : (.code y_M_cutTo b_M_cutTo 3 (some .long) : Cond) ∈ GW := gm_6 (List.mem_of_getElem? (i := 137) rfl) rfl
theorem gw_1338 : (.methodLink "MountainFarmsLaw" 184 y_M_copy : Cond) ∈ GW := gm_6 (gk_spec (k := 138) (by decide +kernel)) rfl
theorem gw_1339 : (.instanceMethod y_M_copy : Cond) ∈ GW := gm_6 (gk_spec (k := 139) (by decide +kernel)) rfl
theorem gw_1340 : (.selects "MountainFarmsModel" y_M_copy y_M_copy : Cond) ∈ GW := gm_6 (gk_spec (k := 140) (by decide +kernel)) rfl
theorem gw_1341 : (.code y_M_copy b_M_copy 7 (some .int) : Cond) ∈ GW := gm_6 (List.mem_of_getElem? (i := 141) rfl) rfl
theorem gw_1342 : (.methodLink "MountainFarmsLaw" 188 y_M_lays : Cond) ∈ GW := gm_6 (gk_spec (k := 142) (by decide +kernel)) rfl
theorem gw_1343 : (.instanceMethod y_M_lays : Cond) ∈ GW := gm_6 (gk_spec (k := 143) (by decide +kernel)) rfl
theorem gw_1344 : (.selects "MountainFarmsModel" y_M_lays y_M_lays : Cond) ∈ GW := gm_6 (gk_spec (k := 144) (by decide +kernel)) rfl
theorem gw_1345 : (.code y_M_lays b_M_lays 6 (some .int) : Cond) ∈ GW := gm_6 (List.mem_of_getElem? (i := 145) rfl) rfl
theorem gw_1346 : (.constantLong "MountainFarmsModel" 326 99 : Cond) ∈ GW := gm_6 (gk_spec (k := 146) (by decide +kernel)) rfl
theorem gw_1347 : (.methodLink "MountainFarmsLaw" 192 y_M_book : Cond) ∈ GW := gm_6 (gk_spec (k := 147) (by decide +kernel)) rfl
theorem gw_1348 : (.instanceMethod y_M_book : Cond) ∈ GW := gm_6 (gk_spec (k := 148) (by decide +kernel)) rfl
theorem gw_1349 : (.selects "MountainFarmsModel" y_M_book y_M_book : Cond) ∈ GW := gm_6 (gk_spec (k := 149) (by decide +kernel)) rfl
theorem gw_1350 : (.code y_M_book b_M_book 4 (some .int) : Cond) ∈ GW := gm_6 (List.mem_of_getElem? (i := 150) rfl) rfl
theorem gw_1351 : (.methodLink "MountainFarmsLaw" 196 y_M_read : Cond) ∈ GW := gm_6 (gk_spec (k := 151) (by decide +kernel)) rfl
theorem gw_1352 : (.instanceMethod y_M_read : Cond) ∈ GW := gm_6 (gk_spec (k := 152) (by decide +kernel)) rfl
theorem gw_1353 : (.selects "MountainFarmsModel" y_M_read y_M_read : Cond) ∈ GW := gm_6 (gk_spec (k := 153) (by decide +kernel)) rfl
theorem gw_1354 : (.code y_M_read b_M_read 4 (some .int) : Cond) ∈ GW := gm_6 (List.mem_of_getElem? (i := 154) rfl) rfl
theorem gw_1355 : (.methodLink "MountainFarmsLaw" 200 y_M_image : Cond) ∈ GW := gm_6 (gk_spec (k := 155) (by decide +kernel)) rfl
theorem gw_1356 : (.instanceMethod y_M_image : Cond) ∈ GW := gm_6 (gk_spec (k := 156) (by decide +kernel)) rfl
theorem gw_1357 : (.selects "MountainFarmsModel" y_M_image y_M_image : Cond) ∈ GW := gm_6 (gk_spec (k := 157) (by decide +kernel)) rfl
theorem gw_1358 : (.code y_M_image b_M_image 1 (some .int) : Cond) ∈ GW := gm_6 (List.mem_of_getElem? (i := 158) rfl) rfl
theorem gw_1359 : (.methodLink "MountainFarmsLaw" 204 y_M_undo : Cond) ∈ GW := gm_6 (gk_spec (k := 159) (by decide +kernel)) rfl
theorem gw_1360 : (.instanceMethod y_M_undo : Cond) ∈ GW := gm_6 (gk_spec (k := 160) (by decide +kernel)) rfl
theorem gw_1361 : (.selects "MountainFarmsModel" y_M_undo y_M_undo : Cond) ∈ GW := gm_6 (gk_spec (k := 161) (by decide +kernel)) rfl
theorem gw_1362 : (.code y_M_undo b_M_undo 1 (some .int) : Cond) ∈ GW := gm_6 (List.mem_of_getElem? (i := 162) rfl) rfl
theorem gw_1363 : (.methodLink "MountainFarmsLaw" 208 y_M_tear : Cond) ∈ GW := gm_6 (gk_spec (k := 163) (by decide +kernel)) rfl
theorem gw_1364 : (.instanceMethod y_M_tear : Cond) ∈ GW := gm_6 (gk_spec (k := 164) (by decide +kernel)) rfl
theorem gw_1365 : (.selects "MountainFarmsModel" y_M_tear y_M_tear : Cond) ∈ GW := gm_6 (gk_spec (k := 165) (by decide +kernel)) rfl
theorem gw_1366 : (.code y_M_tear b_M_tear 2 (some .int) : Cond) ∈ GW := gm_6 (List.mem_of_getElem? (i := 166) rfl) rfl
theorem gw_1367 : (.methodLink "MountainFarmsLaw" 212 y_M_count : Cond) ∈ GW := gm_6 (gk_spec (k := 167) (by decide +kernel)) rfl
theorem gw_1368 : (.instanceMethod y_M_count : Cond) ∈ GW := gm_6 (gk_spec (k := 168) (by decide +kernel)) rfl
theorem gw_1369 : (.selects "MountainFarmsModel" y_M_count y_M_count : Cond) ∈ GW := gm_6 (gk_spec (k := 169) (by decide +kernel)) rfl
theorem gw_1370 : (.code y_M_count b_M_count 4 (some .int) : Cond) ∈ GW := gm_6 (List.mem_of_getElem? (i := 170) rfl) rfl
theorem gw_1371 : (.methodLink "MountainFarmsLaw" 216 y_M_status : Cond) ∈ GW := gm_6 (gk_spec (k := 171) (by decide +kernel)) rfl
theorem gw_1372 : (.instanceMethod y_M_status : Cond) ∈ GW := gm_6 (gk_spec (k := 172) (by decide +kernel)) rfl
theorem gw_1373 : (.selects "MountainFarmsModel" y_M_status y_M_status : Cond) ∈ GW := gm_6 (gk_spec (k := 173) (by decide +kernel)) rfl
theorem gw_1374 : (.code y_M_status b_M_status 2 (some .int) : Cond) ∈ GW := gm_6 (List.mem_of_getElem? (i := 174) rfl) rfl
theorem gw_1375 : (.constantLong "MountainFarmsLaw" 174 4294967295 : Cond) ∈ GW := gm_6 (gk_spec (k := 175) (by decide +kernel)) rfl
theorem gw_1376 : (.fieldLink "java/lang/String" 9 "java/lang/String" "value" "[B" : Cond) ∈ GW := gm_6 (gk_spec (k := 176) (by decide +kernel)) rfl
theorem gw_1377 : (.fieldLink "java/lang/String" 15 "java/lang/String" "coder" "B" : Cond) ∈ GW := gm_6 (gk_spec (k := 177) (by decide +kernel)) rfl
theorem gs_0 : (.selects "MountainFarms" y_X_finding y_X_finding : Cond) ∈ GW := gw_of 0 (by decide +kernel) rfl
theorem gs_1 : (.selects "MountainFarms$Ground" y_Gr_lavaGoesOn y_Gr_lavaGoesOn : Cond) ∈ GW := gw_of 1 (by decide +kernel) rfl
theorem gs_2 : (.selects "MountainFarms" y_X_hitWith y_X_hitWith : Cond) ∈ GW := gw_of 2 (by decide +kernel) rfl
theorem gs_3 : (.selects "MountainFarms$Slope" y_Sl_eruptNow y_Sl_eruptNow : Cond) ∈ GW := gw_of 3 (by decide +kernel) rfl
theorem gs_4 : (.selects "MountainFarms$Tape" y_Ta_endWord y_Ta_endWord : Cond) ∈ GW := gw_of 4 (by decide +kernel) rfl
theorem gs_5 : (.selects "MountainFarms$Tape" y_Ta_endNumber y_Ta_endNumber : Cond) ∈ GW := gw_of 5 (by decide +kernel) rfl
theorem gs_6 : (.selects "MountainFarms$SlopeText" y_Tx_readItem y_Tx_readItem : Cond) ∈ GW := gw_of 6 (by decide +kernel) rfl
theorem gs_7 : (.selects "MountainFarms$SlopeText" y_Tx_kindHere y_Tx_kindHere : Cond) ∈ GW := gw_of 7 (by decide +kernel) rfl
theorem gs_8 : (.selects "MountainFarms$SlopeText" y_Tx_readFarm y_Tx_readFarm : Cond) ∈ GW := gw_of 8 (by decide +kernel) rfl
theorem gs_9 : (.selects "MountainFarms$SlopeText" y_Tx_readWall y_Tx_readWall : Cond) ∈ GW := gw_of 9 (by decide +kernel) rfl
theorem gs_10 : (.selects "MountainFarms$SlopeText" y_Tx_readLevel y_Tx_readLevel : Cond) ∈ GW := gw_of 10 (by decide +kernel) rfl
theorem gs_11 : (.selects "MountainFarms$SlopeText" y_Tx_readVent y_Tx_readVent : Cond) ∈ GW := gw_of 11 (by decide +kernel) rfl
theorem gs_12 : (.selects "MountainFarms$SlopeText" y_Tx_readTenths y_Tx_readTenths : Cond) ∈ GW := gw_of 12 (by decide +kernel) rfl
theorem gs_13 : (.selects "MountainFarms$SlopeText" y_Tx_readDiary y_Tx_readDiary : Cond) ∈ GW := gw_of 13 (by decide +kernel) rfl
theorem gs_14 : (.selects "MountainFarmsModel" y_M_finding y_M_finding : Cond) ∈ GW := gw_of 14 (by decide +kernel) rfl
theorem gs_15 : (.selects "MountainFarmsModel" y_M_become y_M_become : Cond) ∈ GW := gw_of 15 (by decide +kernel) rfl
theorem gs_16 : (.selects "MountainFarmsModel" y_M_farmAt y_M_farmAt : Cond) ∈ GW := gw_of 16 (by decide +kernel) rfl
theorem gs_17 : (.selects "MountainFarmsModel" y_M_farmIs y_M_farmIs : Cond) ∈ GW := gw_of 17 (by decide +kernel) rfl
theorem gs_18 : (.selects "MountainFarmsModel" y_M_wayTo y_M_wayTo : Cond) ∈ GW := gw_of 18 (by decide +kernel) rfl
theorem gs_19 : (.selects "MountainFarmsModel" y_M_cellIn y_M_cellIn : Cond) ∈ GW := gw_of 19 (by decide +kernel) rfl
theorem gs_20 : (.selects "MountainFarmsModel" y_M_hasWall y_M_hasWall : Cond) ∈ GW := gw_of 20 (by decide +kernel) rfl
theorem gs_21 : (.selects "MountainFarmsModel" y_M_putWall y_M_putWall : Cond) ∈ GW := gw_of 21 (by decide +kernel) rfl
theorem gs_22 : (.selects "MountainFarmsModel" y_M_built y_M_built : Cond) ∈ GW := gw_of 22 (by decide +kernel) rfl
theorem gs_23 : (.selects "MountainFarmsModel" y_M_isFarm y_M_isFarm : Cond) ∈ GW := gw_of 23 (by decide +kernel) rfl
theorem gs_24 : (.selects "MountainFarmsModel" y_M_bears y_M_bears : Cond) ∈ GW := gw_of 24 (by decide +kernel) rfl
theorem gs_25 : (.selects "MountainFarmsModel" y_M_coinsOf y_M_coinsOf : Cond) ∈ GW := gw_of 25 (by decide +kernel) rfl
theorem gs_26 : (.selects "MountainFarmsModel" y_M_putTenths y_M_putTenths : Cond) ∈ GW := gw_of 26 (by decide +kernel) rfl
theorem gs_27 : (.selects "MountainFarmsModel" y_M_weigh y_M_weigh : Cond) ∈ GW := gw_of 27 (by decide +kernel) rfl
theorem gs_28 : (.selects "MountainFarmsModel" y_M_seen y_M_seen : Cond) ∈ GW := gw_of 28 (by decide +kernel) rfl
theorem gs_29 : (.selects "MountainFarmsModel" y_M_all y_M_all : Cond) ∈ GW := gw_of 29 (by decide +kernel) rfl
theorem gs_30 : (.selects "MountainFarmsModel" y_M_asked y_M_asked : Cond) ∈ GW := gw_of 30 (by decide +kernel) rfl
theorem gs_31 : (.selects "MountainFarmsModel" y_M_lava y_M_lava : Cond) ∈ GW := gw_of 31 (by decide +kernel) rfl
theorem gs_32 : (.selects "MountainFarmsModel" y_M_flowsTo y_M_flowsTo : Cond) ∈ GW := gw_of 32 (by decide +kernel) rfl
theorem gs_33 : (.selects "MountainFarmsModel" y_M_hits y_M_hits : Cond) ∈ GW := gw_of 33 (by decide +kernel) rfl
theorem gs_34 : (.selects "MountainFarmsModel" y_M_hitsWith y_M_hitsWith : Cond) ∈ GW := gw_of 34 (by decide +kernel) rfl
theorem gs_35 : (.selects "MountainFarmsModel" y_M_isTooLate y_M_isTooLate : Cond) ∈ GW := gw_of 35 (by decide +kernel) rfl
theorem gs_36 : (.selects "MountainFarmsModel" y_M_monthsGo y_M_monthsGo : Cond) ∈ GW := gw_of 36 (by decide +kernel) rfl
theorem gs_37 : (.selects "MountainFarmsModel" y_M_month y_M_month : Cond) ∈ GW := gw_of 37 (by decide +kernel) rfl
theorem gs_38 : (.selects "MountainFarmsModel" y_M_drawn y_M_drawn : Cond) ∈ GW := gw_of 38 (by decide +kernel) rfl
theorem gs_39 : (.selects "MountainFarmsModel" y_M_comesOut y_M_comesOut : Cond) ∈ GW := gw_of 39 (by decide +kernel) rfl
theorem gs_40 : (.selects "MountainFarmsModel" y_M_yearIsOver y_M_yearIsOver : Cond) ∈ GW := gw_of 40 (by decide +kernel) rfl
theorem gs_41 : (.selects "MountainFarmsModel" y_M_putBack y_M_putBack : Cond) ∈ GW := gw_of 41 (by decide +kernel) rfl
theorem gs_42 : (.selects "MountainFarmsModel" y_M_next y_M_next : Cond) ∈ GW := gw_of 42 (by decide +kernel) rfl
theorem gs_43 : (.selects "MountainFarmsModel" y_M_byteAt y_M_byteAt : Cond) ∈ GW := gw_of 43 (by decide +kernel) rfl
theorem gs_44 : (.selects "MountainFarmsModel" y_M_readItem y_M_readItem : Cond) ∈ GW := gw_of 44 (by decide +kernel) rfl
theorem gs_45 : (.selects "MountainFarmsModel" y_M_kindTold y_M_kindTold : Cond) ∈ GW := gw_of 45 (by decide +kernel) rfl
theorem gs_46 : (.selects "MountainFarmsModel" y_M_isWord y_M_isWord : Cond) ∈ GW := gw_of 46 (by decide +kernel) rfl
theorem gs_47 : (.selects "MountainFarmsModel" y_M_readFarm y_M_readFarm : Cond) ∈ GW := gw_of 47 (by decide +kernel) rfl
theorem gs_48 : (.selects "MountainFarmsModel" y_M_must y_M_must : Cond) ∈ GW := gw_of 48 (by decide +kernel) rfl
theorem gs_49 : (.selects "MountainFarmsModel" y_M_number y_M_number : Cond) ∈ GW := gw_of 49 (by decide +kernel) rfl
theorem gs_50 : (.selects "MountainFarmsModel" y_M_item y_M_item : Cond) ∈ GW := gw_of 50 (by decide +kernel) rfl
theorem gs_51 : (.selects "MountainFarmsModel" y_M_readTenths y_M_readTenths : Cond) ∈ GW := gw_of 51 (by decide +kernel) rfl
theorem gs_52 : (.selects "MountainFarmsModel" y_M_readSees y_M_readSees : Cond) ∈ GW := gw_of 52 (by decide +kernel) rfl
theorem gs_53 : (.selects "MountainFarmsModel" y_M_isSo y_M_isSo : Cond) ∈ GW := gw_of 53 (by decide +kernel) rfl
def NWl : List (String × Nat × MethodName × String) := [("MountainFarms", 9, y_Sl_init, "MountainFarms"), ("MountainFarms$Slope", 18, y_Fa_init, "MountainFarms"), ("MountainFarms", 24, y_Pa_init, "MountainFarms"), ("MountainFarms", 31, y_Tx_init, "MountainFarms"), ("MountainFarms$SlopeText", 11, y_Ta_init, "MountainFarms"), ("MountainFarms", 38, y_Sh_init, "MountainFarms"), ("MountainFarms$Ground", 48, y_X_beside, "MountainFarms"), ("MountainFarms$Ground", 44, y_X_isCell, "MountainFarms"), ("MountainFarms$Farms", 54, y_X_bearing, "MountainFarms"), ("MountainFarms$Mountain", 37, y_X_isWithin, "MountainFarms"), ("MountainFarms$SlopeText", 143, y_X_wayTo, "MountainFarms"), ("MountainFarms$SlopeText", 151, y_X_isWithin, "MountainFarms"), ("MountainFarms$Sheet", 22, y_X_isWithin, "MountainFarms")]
theorem nw_in : ∀ q ∈ NWl, (.methodLinkNest q.1 q.2.1 q.2.2.1 q.2.2.2 : Cond) ∈ lw_tbl := by decide +kernel
theorem nw_0 : (("MountainFarms", 9, y_Sl_init, "MountainFarms") : String × Nat × MethodName × String) ∈ NWl := List.mem_of_getElem? (i := 0) rfl
theorem nw_1 : (("MountainFarms$Slope", 18, y_Fa_init, "MountainFarms") : String × Nat × MethodName × String) ∈ NWl := List.mem_of_getElem? (i := 1) rfl
theorem nw_2 : (("MountainFarms", 24, y_Pa_init, "MountainFarms") : String × Nat × MethodName × String) ∈ NWl := List.mem_of_getElem? (i := 2) rfl
theorem nw_3 : (("MountainFarms", 31, y_Tx_init, "MountainFarms") : String × Nat × MethodName × String) ∈ NWl := List.mem_of_getElem? (i := 3) rfl
theorem nw_4 : (("MountainFarms$SlopeText", 11, y_Ta_init, "MountainFarms") : String × Nat × MethodName × String) ∈ NWl := List.mem_of_getElem? (i := 4) rfl
theorem nw_5 : (("MountainFarms", 38, y_Sh_init, "MountainFarms") : String × Nat × MethodName × String) ∈ NWl := List.mem_of_getElem? (i := 5) rfl
theorem nw_6 : (("MountainFarms$Ground", 48, y_X_beside, "MountainFarms") : String × Nat × MethodName × String) ∈ NWl := List.mem_of_getElem? (i := 6) rfl
theorem nw_7 : (("MountainFarms$Ground", 44, y_X_isCell, "MountainFarms") : String × Nat × MethodName × String) ∈ NWl := List.mem_of_getElem? (i := 7) rfl
theorem nw_8 : (("MountainFarms$Farms", 54, y_X_bearing, "MountainFarms") : String × Nat × MethodName × String) ∈ NWl := List.mem_of_getElem? (i := 8) rfl
theorem nw_9 : (("MountainFarms$Mountain", 37, y_X_isWithin, "MountainFarms") : String × Nat × MethodName × String) ∈ NWl := List.mem_of_getElem? (i := 9) rfl
theorem nw_10 : (("MountainFarms$SlopeText", 143, y_X_wayTo, "MountainFarms") : String × Nat × MethodName × String) ∈ NWl := List.mem_of_getElem? (i := 10) rfl
theorem nw_11 : (("MountainFarms$SlopeText", 151, y_X_isWithin, "MountainFarms") : String × Nat × MethodName × String) ∈ NWl := List.mem_of_getElem? (i := 11) rfl
theorem nw_12 : (("MountainFarms$Sheet", 22, y_X_isWithin, "MountainFarms") : String × Nat × MethodName × String) ∈ NWl := List.mem_of_getElem? (i := 12) rfl
