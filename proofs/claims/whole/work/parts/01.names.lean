-- ===== PART A: goes FIRST, ahead of the names: the tables' words, and 'selects' of the private methods out of them =====
/-- a private method of a class that the tables say can be made, by its rows of tables_1 -/
def lw_okq (q : MethodName × Nat) : Prop := (q.1.cls ≠ "java/lang/invoke/MethodHandle" ∧ q.1.cls ≠ "java/lang/invoke/VarHandle") ∧ Cond.instantiable q.1.cls q.2 ∈ tables_1 ∧ Cond.privateMethod q.1 ∈ tables_1 ∧ Cond.instanceMethod q.1 ∈ tables_1
theorem lw_p0 : lw_okq (⟨"SideVersions$Plan", "forget", "()V"⟩, 6) := ⟨⟨by decide +kernel, by decide +kernel⟩, List.mem_of_getElem? (i := 55) (by decide +kernel), List.mem_of_getElem? (i := 330) (by decide +kernel), List.mem_of_getElem? (i := 331) (by decide +kernel)⟩
theorem lw_p1 : lw_okq (⟨"SideVersions$Text", "sortAt", "(I)I"⟩, 5) := ⟨⟨by decide +kernel, by decide +kernel⟩, List.mem_of_getElem? (i := 29) (by decide +kernel), List.mem_of_getElem? (i := 342) (by decide +kernel), List.mem_of_getElem? (i := 343) (by decide +kernel)⟩
theorem lw_p2 : lw_okq (⟨"SideVersions$Text", "byteAt", "(I)I"⟩, 5) := ⟨⟨by decide +kernel, by decide +kernel⟩, List.mem_of_getElem? (i := 29) (by decide +kernel), List.mem_of_getElem? (i := 346) (by decide +kernel), List.mem_of_getElem? (i := 347) (by decide +kernel)⟩
theorem lw_p3 : lw_okq (⟨"SideVersions$Plan", "putUsual", "()V"⟩, 6) := ⟨⟨by decide +kernel, by decide +kernel⟩, List.mem_of_getElem? (i := 55) (by decide +kernel), List.mem_of_getElem? (i := 353) (by decide +kernel), List.mem_of_getElem? (i := 354) (by decide +kernel)⟩
theorem lw_p4 : lw_okq (⟨"SideVersions$Plan", "takesWords", "(LSideVersions$Text;)Z"⟩, 6) := ⟨⟨by decide +kernel, by decide +kernel⟩, List.mem_of_getElem? (i := 55) (by decide +kernel), List.mem_of_getElem? (i := 357) (by decide +kernel), List.mem_of_getElem? (i := 358) (by decide +kernel)⟩
theorem lw_p5 : lw_okq (⟨"SideVersions$Plan", "takesKey", "(I)Z"⟩, 6) := ⟨⟨by decide +kernel, by decide +kernel⟩, List.mem_of_getElem? (i := 55) (by decide +kernel), List.mem_of_getElem? (i := 414) (by decide +kernel), List.mem_of_getElem? (i := 415) (by decide +kernel)⟩
theorem lw_p6 : lw_okq (⟨"SideVersions$Plan", "takenNumber", "(LSideVersions$Text;II)I"⟩, 6) := ⟨⟨by decide +kernel, by decide +kernel⟩, List.mem_of_getElem? (i := 55) (by decide +kernel), List.mem_of_getElem? (i := 420) (by decide +kernel), List.mem_of_getElem? (i := 421) (by decide +kernel)⟩
theorem lw_p7 : lw_okq (⟨"SideVersions$Plan", "takesSemicolon", "(LSideVersions$Text;)Z"⟩, 6) := ⟨⟨by decide +kernel, by decide +kernel⟩, List.mem_of_getElem? (i := 55) (by decide +kernel), List.mem_of_getElem? (i := 430) (by decide +kernel), List.mem_of_getElem? (i := 431) (by decide +kernel)⟩
theorem lw_p8 : lw_okq (⟨"SideVersions", "beginAnew", "()V"⟩, 12) := ⟨⟨by decide +kernel, by decide +kernel⟩, List.mem_of_getElem? (i := 21) (by decide +kernel), List.mem_of_getElem? (i := 434) (by decide +kernel), List.mem_of_getElem? (i := 435) (by decide +kernel)⟩
theorem lw_p9 : lw_okq (⟨"SideVersions", "clientAt", "(I)LSideVersions$Client;"⟩, 12) := ⟨⟨by decide +kernel, by decide +kernel⟩, List.mem_of_getElem? (i := 21) (by decide +kernel), List.mem_of_getElem? (i := 472) (by decide +kernel), List.mem_of_getElem? (i := 473) (by decide +kernel)⟩
theorem lw_p10 : lw_okq (⟨"SideVersions", "replicaAt", "(II)LSideVersions$Replica;"⟩, 12) := ⟨⟨by decide +kernel, by decide +kernel⟩, List.mem_of_getElem? (i := 21) (by decide +kernel), List.mem_of_getElem? (i := 476) (by decide +kernel), List.mem_of_getElem? (i := 477) (by decide +kernel)⟩
theorem lw_p11 : lw_okq (⟨"SideVersions", "keyAt", "(I)LSideVersions$Key;"⟩, 12) := ⟨⟨by decide +kernel, by decide +kernel⟩, List.mem_of_getElem? (i := 21) (by decide +kernel), List.mem_of_getElem? (i := 480) (by decide +kernel), List.mem_of_getElem? (i := 481) (by decide +kernel)⟩
theorem lw_p12 : lw_okq (⟨"SideVersions", "isSite", "(I)Z"⟩, 12) := ⟨⟨by decide +kernel, by decide +kernel⟩, List.mem_of_getElem? (i := 21) (by decide +kernel), List.mem_of_getElem? (i := 484) (by decide +kernel), List.mem_of_getElem? (i := 485) (by decide +kernel)⟩
theorem lw_p13 : lw_okq (⟨"SideVersions$Journal", "oldestSite", "(I)I"⟩, 11) := ⟨⟨by decide +kernel, by decide +kernel⟩, List.mem_of_getElem? (i := 147) (by decide +kernel), List.mem_of_getElem? (i := 502) (by decide +kernel), List.mem_of_getElem? (i := 503) (by decide +kernel)⟩
theorem lw_p14 : lw_okq (⟨"SideVersions$MergeRules", "placeOf", "(I)I"⟩, 3) := ⟨⟨by decide +kernel, by decide +kernel⟩, List.mem_of_getElem? (i := 89) (by decide +kernel), List.mem_of_getElem? (i := 643) (by decide +kernel), List.mem_of_getElem? (i := 644) (by decide +kernel)⟩
theorem lw_p15 : lw_okq (⟨"SideVersions$MergeRules", "isPlace", "(I)Z"⟩, 3) := ⟨⟨by decide +kernel, by decide +kernel⟩, List.mem_of_getElem? (i := 89) (by decide +kernel), List.mem_of_getElem? (i := 651) (by decide +kernel), List.mem_of_getElem? (i := 652) (by decide +kernel)⟩
def lw_privs_1 : List (MethodName × Nat) := [(⟨"SideVersions$Plan", "forget", "()V"⟩, 6), (⟨"SideVersions$Text", "sortAt", "(I)I"⟩, 5), (⟨"SideVersions$Text", "byteAt", "(I)I"⟩, 5), (⟨"SideVersions$Plan", "putUsual", "()V"⟩, 6), (⟨"SideVersions$Plan", "takesWords", "(LSideVersions$Text;)Z"⟩, 6), (⟨"SideVersions$Plan", "takesKey", "(I)Z"⟩, 6), (⟨"SideVersions$Plan", "takenNumber", "(LSideVersions$Text;II)I"⟩, 6), (⟨"SideVersions$Plan", "takesSemicolon", "(LSideVersions$Text;)Z"⟩, 6), (⟨"SideVersions", "beginAnew", "()V"⟩, 12), (⟨"SideVersions", "clientAt", "(I)LSideVersions$Client;"⟩, 12), (⟨"SideVersions", "replicaAt", "(II)LSideVersions$Replica;"⟩, 12), (⟨"SideVersions", "keyAt", "(I)LSideVersions$Key;"⟩, 12), (⟨"SideVersions", "isSite", "(I)Z"⟩, 12), (⟨"SideVersions$Journal", "oldestSite", "(I)I"⟩, 11), (⟨"SideVersions$MergeRules", "placeOf", "(I)I"⟩, 3), (⟨"SideVersions$MergeRules", "isPlace", "(I)Z"⟩, 3)]
theorem lw_r1 : ∀ q ∈ lw_privs_1, lw_okq q := List.forall_mem_cons.mpr ⟨lw_p0, List.forall_mem_cons.mpr ⟨lw_p1, List.forall_mem_cons.mpr ⟨lw_p2, List.forall_mem_cons.mpr ⟨lw_p3, List.forall_mem_cons.mpr ⟨lw_p4, List.forall_mem_cons.mpr ⟨lw_p5, List.forall_mem_cons.mpr ⟨lw_p6, List.forall_mem_cons.mpr ⟨lw_p7, List.forall_mem_cons.mpr ⟨lw_p8, List.forall_mem_cons.mpr ⟨lw_p9, List.forall_mem_cons.mpr ⟨lw_p10, List.forall_mem_cons.mpr ⟨lw_p11, List.forall_mem_cons.mpr ⟨lw_p12, List.forall_mem_cons.mpr ⟨lw_p13, List.forall_mem_cons.mpr ⟨lw_p14, List.forall_mem_cons.mpr ⟨lw_p15, fun _ h => absurd h List.not_mem_nil⟩⟩⟩⟩⟩⟩⟩⟩⟩⟩⟩⟩⟩⟩⟩⟩
theorem lw_p16 : lw_okq (⟨"SideVersions$Merger", "putTogether", "(J)V"⟩, 4) := ⟨⟨by decide +kernel, by decide +kernel⟩, List.mem_of_getElem? (i := 105) (by decide +kernel), List.mem_of_getElem? (i := 681) (by decide +kernel), List.mem_of_getElem? (i := 682) (by decide +kernel)⟩
theorem lw_p17 : lw_okq (⟨"SideVersions$Merger", "keepCommon", "(J)V"⟩, 4) := ⟨⟨by decide +kernel, by decide +kernel⟩, List.mem_of_getElem? (i := 105) (by decide +kernel), List.mem_of_getElem? (i := 685) (by decide +kernel), List.mem_of_getElem? (i := 686) (by decide +kernel)⟩
theorem lw_p18 : lw_okq (⟨"SideVersions", "dotAt", "(III)I"⟩, 12) := ⟨⟨by decide +kernel, by decide +kernel⟩, List.mem_of_getElem? (i := 21) (by decide +kernel), List.mem_of_getElem? (i := 738) (by decide +kernel), List.mem_of_getElem? (i := 739) (by decide +kernel)⟩
theorem lw_p19 : lw_okq (⟨"SideVersions$Gossip", "lackingSites", "(I)I"⟩, 3) := ⟨⟨by decide +kernel, by decide +kernel⟩, List.mem_of_getElem? (i := 126) (by decide +kernel), List.mem_of_getElem? (i := 828) (by decide +kernel), List.mem_of_getElem? (i := 829) (by decide +kernel)⟩
theorem lw_p20 : lw_okq (⟨"SideVersions$Gossip", "afterSending", "(III)I"⟩, 3) := ⟨⟨by decide +kernel, by decide +kernel⟩, List.mem_of_getElem? (i := 126) (by decide +kernel), List.mem_of_getElem? (i := 835) (by decide +kernel), List.mem_of_getElem? (i := 836) (by decide +kernel)⟩
theorem lw_p21 : lw_okq (⟨"SideVersionsModel", "begins", "()V"⟩, 41) := ⟨⟨by decide +kernel, by decide +kernel⟩, List.mem_of_getElem? (i := 866) (by decide +kernel), List.mem_of_getElem? (i := 873) (by decide +kernel), List.mem_of_getElem? (i := 874) (by decide +kernel)⟩
theorem lw_p22 : lw_okq (⟨"SideVersionsModel", "forgets", "()V"⟩, 41) := ⟨⟨by decide +kernel, by decide +kernel⟩, List.mem_of_getElem? (i := 866) (by decide +kernel), List.mem_of_getElem? (i := 877) (by decide +kernel), List.mem_of_getElem? (i := 878) (by decide +kernel)⟩
theorem lw_p23 : lw_okq (⟨"SideVersionsModel", "isBetween", "(II)Z"⟩, 41) := ⟨⟨by decide +kernel, by decide +kernel⟩, List.mem_of_getElem? (i := 866) (by decide +kernel), List.mem_of_getElem? (i := 1022) (by decide +kernel), List.mem_of_getElem? (i := 1023) (by decide +kernel)⟩
theorem lw_p24 : lw_okq (⟨"SideVersionsModel", "readsItem", "()Z"⟩, 41) := ⟨⟨by decide +kernel, by decide +kernel⟩, List.mem_of_getElem? (i := 866) (by decide +kernel), List.mem_of_getElem? (i := 1026) (by decide +kernel), List.mem_of_getElem? (i := 1027) (by decide +kernel)⟩
theorem lw_p25 : lw_okq (⟨"SideVersionsModel", "next", "()V"⟩, 41) := ⟨⟨by decide +kernel, by decide +kernel⟩, List.mem_of_getElem? (i := 866) (by decide +kernel), List.mem_of_getElem? (i := 1030) (by decide +kernel), List.mem_of_getElem? (i := 1031) (by decide +kernel)⟩
theorem lw_p26 : lw_okq (⟨"SideVersionsModel", "number", "(II)Z"⟩, 41) := ⟨⟨by decide +kernel, by decide +kernel⟩, List.mem_of_getElem? (i := 866) (by decide +kernel), List.mem_of_getElem? (i := 1040) (by decide +kernel), List.mem_of_getElem? (i := 1041) (by decide +kernel)⟩
theorem lw_p27 : lw_okq (⟨"SideVersionsModel", "stops", "()Z"⟩, 41) := ⟨⟨by decide +kernel, by decide +kernel⟩, List.mem_of_getElem? (i := 866) (by decide +kernel), List.mem_of_getElem? (i := 1044) (by decide +kernel), List.mem_of_getElem? (i := 1045) (by decide +kernel)⟩
theorem lw_p28 : lw_okq (⟨"SideVersionsModel", "isSite", "(I)Z"⟩, 41) := ⟨⟨by decide +kernel, by decide +kernel⟩, List.mem_of_getElem? (i := 866) (by decide +kernel), List.mem_of_getElem? (i := 1056) (by decide +kernel), List.mem_of_getElem? (i := 1057) (by decide +kernel)⟩
theorem lw_p29 : lw_okq (⟨"SideVersionsModel", "isKey", "(I)Z"⟩, 41) := ⟨⟨by decide +kernel, by decide +kernel⟩, List.mem_of_getElem? (i := 866) (by decide +kernel), List.mem_of_getElem? (i := 1060) (by decide +kernel), List.mem_of_getElem? (i := 1061) (by decide +kernel)⟩
theorem lw_p30 : lw_okq (⟨"SideVersionsModel", "siblings", "(II)I"⟩, 41) := ⟨⟨by decide +kernel, by decide +kernel⟩, List.mem_of_getElem? (i := 866) (by decide +kernel), List.mem_of_getElem? (i := 1073) (by decide +kernel), List.mem_of_getElem? (i := 1074) (by decide +kernel)⟩
theorem lw_p31 : lw_okq (⟨"SideVersionsModel", "comes", "(IIJ)I"⟩, 41) := ⟨⟨by decide +kernel, by decide +kernel⟩, List.mem_of_getElem? (i := 866) (by decide +kernel), List.mem_of_getElem? (i := 1081) (by decide +kernel), List.mem_of_getElem? (i := 1082) (by decide +kernel)⟩
def lw_privs_2 : List (MethodName × Nat) := [(⟨"SideVersions$Merger", "putTogether", "(J)V"⟩, 4), (⟨"SideVersions$Merger", "keepCommon", "(J)V"⟩, 4), (⟨"SideVersions", "dotAt", "(III)I"⟩, 12), (⟨"SideVersions$Gossip", "lackingSites", "(I)I"⟩, 3), (⟨"SideVersions$Gossip", "afterSending", "(III)I"⟩, 3), (⟨"SideVersionsModel", "begins", "()V"⟩, 41), (⟨"SideVersionsModel", "forgets", "()V"⟩, 41), (⟨"SideVersionsModel", "isBetween", "(II)Z"⟩, 41), (⟨"SideVersionsModel", "readsItem", "()Z"⟩, 41), (⟨"SideVersionsModel", "next", "()V"⟩, 41), (⟨"SideVersionsModel", "number", "(II)Z"⟩, 41), (⟨"SideVersionsModel", "stops", "()Z"⟩, 41), (⟨"SideVersionsModel", "isSite", "(I)Z"⟩, 41), (⟨"SideVersionsModel", "isKey", "(I)Z"⟩, 41), (⟨"SideVersionsModel", "siblings", "(II)I"⟩, 41), (⟨"SideVersionsModel", "comes", "(IIJ)I"⟩, 41)]
theorem lw_r2 : ∀ q ∈ lw_privs_2, lw_okq q := List.forall_mem_cons.mpr ⟨lw_p16, List.forall_mem_cons.mpr ⟨lw_p17, List.forall_mem_cons.mpr ⟨lw_p18, List.forall_mem_cons.mpr ⟨lw_p19, List.forall_mem_cons.mpr ⟨lw_p20, List.forall_mem_cons.mpr ⟨lw_p21, List.forall_mem_cons.mpr ⟨lw_p22, List.forall_mem_cons.mpr ⟨lw_p23, List.forall_mem_cons.mpr ⟨lw_p24, List.forall_mem_cons.mpr ⟨lw_p25, List.forall_mem_cons.mpr ⟨lw_p26, List.forall_mem_cons.mpr ⟨lw_p27, List.forall_mem_cons.mpr ⟨lw_p28, List.forall_mem_cons.mpr ⟨lw_p29, List.forall_mem_cons.mpr ⟨lw_p30, List.forall_mem_cons.mpr ⟨lw_p31, fun _ h => absurd h List.not_mem_nil⟩⟩⟩⟩⟩⟩⟩⟩⟩⟩⟩⟩⟩⟩⟩⟩
theorem lw_p32 : lw_okq (⟨"SideVersionsModel", "bounds", "(II)V"⟩, 41) := ⟨⟨by decide +kernel, by decide +kernel⟩, List.mem_of_getElem? (i := 866) (by decide +kernel), List.mem_of_getElem? (i := 1085) (by decide +kernel), List.mem_of_getElem? (i := 1086) (by decide +kernel)⟩
theorem lw_p33 : lw_okq (⟨"SideVersionsModel", "eldest", "(II)I"⟩, 41) := ⟨⟨by decide +kernel, by decide +kernel⟩, List.mem_of_getElem? (i := 866) (by decide +kernel), List.mem_of_getElem? (i := 1089) (by decide +kernel), List.mem_of_getElem? (i := 1090) (by decide +kernel)⟩
theorem lw_p34 : lw_okq (⟨"SideVersionsModel", "ruleOf", "(I)I"⟩, 41) := ⟨⟨by decide +kernel, by decide +kernel⟩, List.mem_of_getElem? (i := 866) (by decide +kernel), List.mem_of_getElem? (i := 1105) (by decide +kernel), List.mem_of_getElem? (i := 1106) (by decide +kernel)⟩
theorem lw_p35 : lw_okq (⟨"SideVersionsModel", "joinedAll", "(III)J"⟩, 41) := ⟨⟨by decide +kernel, by decide +kernel⟩, List.mem_of_getElem? (i := 866) (by decide +kernel), List.mem_of_getElem? (i := 1109) (by decide +kernel), List.mem_of_getElem? (i := 1110) (by decide +kernel)⟩
theorem lw_p36 : lw_okq (⟨"SideVersionsModel", "joined", "(IIJJ)J"⟩, 41) := ⟨⟨by decide +kernel, by decide +kernel⟩, List.mem_of_getElem? (i := 866) (by decide +kernel), List.mem_of_getElem? (i := 1113) (by decide +kernel), List.mem_of_getElem? (i := 1114) (by decide +kernel)⟩
theorem lw_p37 : lw_okq (⟨"SideVersionsModel", "sum", "(JJ)J"⟩, 41) := ⟨⟨by decide +kernel, by decide +kernel⟩, List.mem_of_getElem? (i := 866) (by decide +kernel), List.mem_of_getElem? (i := 1117) (by decide +kernel), List.mem_of_getElem? (i := 1118) (by decide +kernel)⟩
theorem lw_p38 : lw_okq (⟨"SideVersionsModel", "isWrite", "(III)Z"⟩, 41) := ⟨⟨by decide +kernel, by decide +kernel⟩, List.mem_of_getElem? (i := 866) (by decide +kernel), List.mem_of_getElem? (i := 1148) (by decide +kernel), List.mem_of_getElem? (i := 1149) (by decide +kernel)⟩
theorem lw_p39 : lw_okq (⟨"SideVersionsModel", "isLost", "(I)Z"⟩, 41) := ⟨⟨by decide +kernel, by decide +kernel⟩, List.mem_of_getElem? (i := 866) (by decide +kernel), List.mem_of_getElem? (i := 1155) (by decide +kernel), List.mem_of_getElem? (i := 1156) (by decide +kernel)⟩
theorem lw_p40 : lw_okq (⟨"SideVersionsModel", "areAlike", "(III)Z"⟩, 41) := ⟨⟨by decide +kernel, by decide +kernel⟩, List.mem_of_getElem? (i := 866) (by decide +kernel), List.mem_of_getElem? (i := 1167) (by decide +kernel), List.mem_of_getElem? (i := 1168) (by decide +kernel)⟩
theorem lw_p41 : lw_okq (⟨"SideVersionsModel", "laysSets", "(I)V"⟩, 41) := ⟨⟨by decide +kernel, by decide +kernel⟩, List.mem_of_getElem? (i := 866) (by decide +kernel), List.mem_of_getElem? (i := 1179) (by decide +kernel), List.mem_of_getElem? (i := 1180) (by decide +kernel)⟩
theorem lw_p42 : lw_okq (⟨"SideVersionsModel", "joinsSet", "(III)V"⟩, 41) := ⟨⟨by decide +kernel, by decide +kernel⟩, List.mem_of_getElem? (i := 866) (by decide +kernel), List.mem_of_getElem? (i := 1183) (by decide +kernel), List.mem_of_getElem? (i := 1184) (by decide +kernel)⟩
theorem lw_p43 : lw_okq (⟨"SideVersionsModel", "areLike", "(II)Z"⟩, 41) := ⟨⟨by decide +kernel, by decide +kernel⟩, List.mem_of_getElem? (i := 866) (by decide +kernel), List.mem_of_getElem? (i := 1187) (by decide +kernel), List.mem_of_getElem? (i := 1188) (by decide +kernel)⟩
theorem lw_p44 : lw_okq (⟨"SideVersionsModel", "fewest", "(I)I"⟩, 41) := ⟨⟨by decide +kernel, by decide +kernel⟩, List.mem_of_getElem? (i := 866) (by decide +kernel), List.mem_of_getElem? (i := 1191) (by decide +kernel), List.mem_of_getElem? (i := 1192) (by decide +kernel)⟩
theorem lw_p45 : lw_okq (⟨"SideVersionsModel", "isAll", "(I)Z"⟩, 41) := ⟨⟨by decide +kernel, by decide +kernel⟩, List.mem_of_getElem? (i := 866) (by decide +kernel), List.mem_of_getElem? (i := 1195) (by decide +kernel), List.mem_of_getElem? (i := 1196) (by decide +kernel)⟩
theorem lw_p46 : lw_okq (⟨"SideVersionsModel", "counted", "(II)I"⟩, 41) := ⟨⟨by decide +kernel, by decide +kernel⟩, List.mem_of_getElem? (i := 866) (by decide +kernel), List.mem_of_getElem? (i := 1214) (by decide +kernel), List.mem_of_getElem? (i := 1215) (by decide +kernel)⟩
def lw_privs_3 : List (MethodName × Nat) := [(⟨"SideVersionsModel", "bounds", "(II)V"⟩, 41), (⟨"SideVersionsModel", "eldest", "(II)I"⟩, 41), (⟨"SideVersionsModel", "ruleOf", "(I)I"⟩, 41), (⟨"SideVersionsModel", "joinedAll", "(III)J"⟩, 41), (⟨"SideVersionsModel", "joined", "(IIJJ)J"⟩, 41), (⟨"SideVersionsModel", "sum", "(JJ)J"⟩, 41), (⟨"SideVersionsModel", "isWrite", "(III)Z"⟩, 41), (⟨"SideVersionsModel", "isLost", "(I)Z"⟩, 41), (⟨"SideVersionsModel", "areAlike", "(III)Z"⟩, 41), (⟨"SideVersionsModel", "laysSets", "(I)V"⟩, 41), (⟨"SideVersionsModel", "joinsSet", "(III)V"⟩, 41), (⟨"SideVersionsModel", "areLike", "(II)Z"⟩, 41), (⟨"SideVersionsModel", "fewest", "(I)I"⟩, 41), (⟨"SideVersionsModel", "isAll", "(I)Z"⟩, 41), (⟨"SideVersionsModel", "counted", "(II)I"⟩, 41)]
theorem lw_r3 : ∀ q ∈ lw_privs_3, lw_okq q := List.forall_mem_cons.mpr ⟨lw_p32, List.forall_mem_cons.mpr ⟨lw_p33, List.forall_mem_cons.mpr ⟨lw_p34, List.forall_mem_cons.mpr ⟨lw_p35, List.forall_mem_cons.mpr ⟨lw_p36, List.forall_mem_cons.mpr ⟨lw_p37, List.forall_mem_cons.mpr ⟨lw_p38, List.forall_mem_cons.mpr ⟨lw_p39, List.forall_mem_cons.mpr ⟨lw_p40, List.forall_mem_cons.mpr ⟨lw_p41, List.forall_mem_cons.mpr ⟨lw_p42, List.forall_mem_cons.mpr ⟨lw_p43, List.forall_mem_cons.mpr ⟨lw_p44, List.forall_mem_cons.mpr ⟨lw_p45, List.forall_mem_cons.mpr ⟨lw_p46, fun _ h => absurd h List.not_mem_nil⟩⟩⟩⟩⟩⟩⟩⟩⟩⟩⟩⟩⟩⟩⟩
def lw_privs : List (MethodName × Nat) := lw_privs_1 ++ (lw_privs_2 ++ (lw_privs_3))
def lw_tbl : List Cond := k2_sels lw_privs ++ tables_1
theorem lw_privs_ok : ∀ q ∈ lw_privs, lw_okq q := by
  show ∀ q ∈ lw_privs_1 ++ (lw_privs_2 ++ (lw_privs_3)), lw_okq q
  exact List.forall_mem_append.mpr ⟨lw_r1, List.forall_mem_append.mpr ⟨lw_r2, lw_r3⟩⟩
def RX0 : String := "SideVersions$Client"
def TX0 : u_T := fun k => match k with
  | 0 => ("SideVersions$Client", "key", "I", false)
  | 1 => ("SideVersions$Client", "known", "I", false)
  | _ => ("SideVersions$Client", "told", "I", false)
def tyX0 : Nat → FieldType := fun k => match k with
  | 0 => .int
  | 1 => .int
  | _ => .int
abbrev wsX00 : List Cond := u_ws RX0 TX0 3
theorem nmX0 : ∀ a, a < 3 → ∀ b, b < 3 → a ≠ b → (TX0 a).2.1 ≠ (TX0 b).2.1 := by decide +kernel
theorem tyX0_ok : ∀ k, k < 3 → parseFieldDescriptor (TX0 k).2.2.1 = some (tyX0 k) := by decide +kernel
abbrev cX0_init : ByteArray := prog_2_method_1_code
def yX0_init : MethodName := ⟨RX0, "<init>", "()V"⟩
abbrev cX0_isBlind : ByteArray := prog_2_method_2_code
def yX0_isBlind : MethodName := ⟨RX0, "isBlind", "()Z"⟩
abbrev cX0_becomeBlind : ByteArray := prog_2_method_3_code
def yX0_becomeBlind : MethodName := ⟨RX0, "becomeBlind", "()V"⟩
def RX1 : String := "SideVersions$Dots"
def TX1 : u_T := fun k => match k with
  | _ => ("SideVersions$Dots", "bits", "[J", true)
def tyX1 : Nat → FieldType := fun k => match k with
  | _ => .array .long
abbrev wsX10 : List Cond := u_ws RX1 TX1 1
theorem nmX1 : ∀ a, a < 1 → ∀ b, b < 1 → a ≠ b → (TX1 a).2.1 ≠ (TX1 b).2.1 := by decide +kernel
theorem tyX1_ok : ∀ k, k < 1 → parseFieldDescriptor (TX1 k).2.2.1 = some (tyX1 k) := by decide +kernel
abbrev cX1_init : ByteArray := prog_3_method_1_code
def yX1_init : MethodName := ⟨RX1, "<init>", "()V"⟩
abbrev cX1_of : ByteArray := prog_3_method_2_code
def yX1_of : MethodName := ⟨RX1, "of", "(II)I"⟩
abbrev cX1_siteOf : ByteArray := prog_3_method_3_code
def yX1_siteOf : MethodName := ⟨RX1, "siteOf", "(I)I"⟩
abbrev cX1_numberOf : ByteArray := prog_3_method_4_code
def yX1_numberOf : MethodName := ⟨RX1, "numberOf", "(I)I"⟩
abbrev cX1_isDot : ByteArray := prog_3_method_5_code
def yX1_isDot : MethodName := ⟨RX1, "isDot", "(I)Z"⟩
abbrev cX1_covered : ByteArray := prog_3_method_6_code
def yX1_covered : MethodName := ⟨RX1, "covered", "(II)J"⟩
abbrev cX1_has : ByteArray := prog_3_method_7_code
def yX1_has : MethodName := ⟨RX1, "has", "(I)Z"⟩
abbrev cX1_add : ByteArray := prog_3_method_8_code
def yX1_add : MethodName := ⟨RX1, "add", "(I)V"⟩
abbrev cX1_remove : ByteArray := prog_3_method_9_code
def yX1_remove : MethodName := ⟨RX1, "remove", "(I)V"⟩
abbrev cX1_empty : ByteArray := prog_3_method_10_code
def yX1_empty : MethodName := ⟨RX1, "empty", "()V"⟩
abbrev cX1_size : ByteArray := prog_3_method_11_code
def yX1_size : MethodName := ⟨RX1, "size", "()I"⟩
abbrev cX1_at : ByteArray := prog_3_method_12_code
def yX1_at : MethodName := ⟨RX1, "at", "(I)I"⟩
abbrev cX1_isSame : ByteArray := prog_3_method_13_code
def yX1_isSame : MethodName := ⟨RX1, "isSame", "(LSideVersions$Dots;)Z"⟩
abbrev cX1_addAll : ByteArray := prog_3_method_14_code
def yX1_addAll : MethodName := ⟨RX1, "addAll", "(LSideVersions$Dots;)V"⟩
abbrev cX1_addCovered : ByteArray := prog_3_method_15_code
def yX1_addCovered : MethodName := ⟨RX1, "addCovered", "(LSideVersions$Dots;I)V"⟩
abbrev cX1_removeCovered : ByteArray := prog_3_method_16_code
def yX1_removeCovered : MethodName := ⟨RX1, "removeCovered", "(I)V"⟩
abbrev cX1_coveredTotal : ByteArray := prog_3_method_17_code
def yX1_coveredTotal : MethodName := ⟨RX1, "coveredTotal", "(I)I"⟩
abbrev cX1_join : ByteArray := prog_3_method_18_code
def yX1_join : MethodName := ⟨RX1, "join", "(ILSideVersions$Dots;I)V"⟩
abbrev cX1_gone : ByteArray := prog_3_method_19_code
def yX1_gone : MethodName := ⟨RX1, "gone", "(II)J"⟩
abbrev cX1_bitOf : ByteArray := prog_3_method_20_code
def yX1_bitOf : MethodName := ⟨RX1, "bitOf", "(I)J"⟩
def RX2 : String := "SideVersions$Gossip"
def TX2 : u_T := fun k => match k with
  | 0 => ("SideVersions$Gossip", "closed", "[I", true)
  | 1 => ("SideVersions$Gossip", "sites", "I", false)
  | _ => ("SideVersions$Gossip", "begin", "I", false)
def tyX2 : Nat → FieldType := fun k => match k with
  | 0 => .array .int
  | 1 => .int
  | _ => .int
abbrev wsX20 : List Cond := u_ws RX2 TX2 3
theorem nmX2 : ∀ a, a < 3 → ∀ b, b < 3 → a ≠ b → (TX2 a).2.1 ≠ (TX2 b).2.1 := by decide +kernel
theorem tyX2_ok : ∀ k, k < 3 → parseFieldDescriptor (TX2 k).2.2.1 = some (tyX2 k) := by decide +kernel
abbrev cX2_init : ByteArray := prog_4_method_1_code
def yX2_init : MethodName := ⟨RX2, "<init>", "()V"⟩
abbrev cX2_lookAt : ByteArray := prog_4_method_2_code
def yX2_lookAt : MethodName := ⟨RX2, "lookAt", "(LSideVersions$Key;I)V"⟩
abbrev cX2_fewest : ByteArray := prog_4_method_3_code
def yX2_fewest : MethodName := ⟨RX2, "fewest", "()I"⟩
abbrev cX2_firstOfFewest : ByteArray := prog_4_method_4_code
def yX2_firstOfFewest : MethodName := ⟨RX2, "firstOfFewest", "()I"⟩
abbrev cX2_isEnough : ByteArray := prog_4_method_5_code
def yX2_isEnough : MethodName := ⟨RX2, "isEnough", "(LSideVersions$Gossip;II)Z"⟩
abbrev cX2_lackingSites : ByteArray := prog_4_method_6_code
def yX2_lackingSites : MethodName := ⟨RX2, "lackingSites", "(I)I"⟩
abbrev cX2_afterSending : ByteArray := prog_4_method_7_code
def yX2_afterSending : MethodName := ⟨RX2, "afterSending", "(III)I"⟩
abbrev cX2_setOf : ByteArray := prog_4_method_8_code
def yX2_setOf : MethodName := ⟨RX2, "setOf", "(II)I"⟩
def RX3 : String := "SideVersions$Journal"
def TX3 : u_T := fun k => match k with
  | 0 => ("SideVersions$Journal", "values", "[J", true)
  | 1 => ("SideVersions$Journal", "stamps", "[I", true)
  | 2 => ("SideVersions$Journal", "told", "[I", true)
  | 3 => ("SideVersions$Journal", "known", "[I", true)
  | 4 => ("SideVersions$Journal", "seen", "LSideVersions$Dots;", true)
  | 5 => ("SideVersions$Journal", "dropped", "LSideVersions$Dots;", true)
  | 6 => ("SideVersions$Journal", "replaced", "LSideVersions$Dots;", true)
  | 7 => ("SideVersions$Journal", "merged", "LSideVersions$Dots;", true)
  | 8 => ("SideVersions$Journal", "kind", "I", false)
  | 9 => ("SideVersions$Journal", "made", "I", false)
  | _ => ("SideVersions$Journal", "falseSiblings", "I", false)
def tyX3 : Nat → FieldType := fun k => match k with
  | 0 => .array .long
  | 1 => .array .int
  | 2 => .array .int
  | 3 => .array .int
  | 4 => .object "SideVersions$Dots"
  | 5 => .object "SideVersions$Dots"
  | 6 => .object "SideVersions$Dots"
  | 7 => .object "SideVersions$Dots"
  | 8 => .int
  | 9 => .int
  | _ => .int
abbrev wsX30 : List Cond := u_ws RX3 TX3 11
theorem nmX3 : ∀ a, a < 11 → ∀ b, b < 11 → a ≠ b → (TX3 a).2.1 ≠ (TX3 b).2.1 := by decide +kernel
theorem tyX3_ok : ∀ k, k < 11 → parseFieldDescriptor (TX3 k).2.2.1 = some (tyX3 k) := by decide +kernel
abbrev cX3_init : ByteArray := prog_5_method_1_code
def yX3_init : MethodName := ⟨RX3, "<init>", "()V"⟩
abbrev cX3_beginAnew : ByteArray := prog_5_method_2_code
def yX3_beginAnew : MethodName := ⟨RX3, "beginAnew", "(I)V"⟩
abbrev cX3_has : ByteArray := prog_5_method_3_code
def yX3_has : MethodName := ⟨RX3, "has", "(I)Z"⟩
abbrev cX3_note : ByteArray := prog_5_method_4_code
def yX3_note : MethodName := ⟨RX3, "note", "(IJIII)V"⟩
abbrev cX3_valueOf : ByteArray := prog_5_method_5_code
def yX3_valueOf : MethodName := ⟨RX3, "valueOf", "(I)J"⟩
abbrev cX3_stampOf : ByteArray := prog_5_method_6_code
def yX3_stampOf : MethodName := ⟨RX3, "stampOf", "(I)I"⟩
abbrev cX3_toldOf : ByteArray := prog_5_method_7_code
def yX3_toldOf : MethodName := ⟨RX3, "toldOf", "(I)I"⟩
abbrev cX3_knownOf : ByteArray := prog_5_method_8_code
def yX3_knownOf : MethodName := ⟨RX3, "knownOf", "(I)I"⟩
abbrev cX3_nextByStamp : ByteArray := prog_5_method_9_code
def yX3_nextByStamp : MethodName := ⟨RX3, "nextByStamp", "(LSideVersions$Dots;I)I"⟩
abbrev cX3_pruned : ByteArray := prog_5_method_10_code
def yX3_pruned : MethodName := ⟨RX3, "pruned", "(II)I"⟩
abbrev cX3_oldestSite : ByteArray := prog_5_method_11_code
def yX3_oldestSite : MethodName := ⟨RX3, "oldestSite", "(I)I"⟩
def RX4 : String := "SideVersions$Key"
def TX4 : u_T := fun k => match k with
  | 0 => ("SideVersions$Key", "journal", "LSideVersions$Journal;", true)
  | _ => ("SideVersions$Key", "replicas", "[LSideVersions$Replica;", true)
def tyX4 : Nat → FieldType := fun k => match k with
  | 0 => .object "SideVersions$Journal"
  | _ => .array (.object "SideVersions$Replica")
abbrev wsX40 : List Cond := u_ws RX4 TX4 2
theorem nmX4 : ∀ a, a < 2 → ∀ b, b < 2 → a ≠ b → (TX4 a).2.1 ≠ (TX4 b).2.1 := by decide +kernel
theorem tyX4_ok : ∀ k, k < 2 → parseFieldDescriptor (TX4 k).2.2.1 = some (tyX4 k) := by decide +kernel
abbrev cX4_init : ByteArray := prog_6_method_1_code
def yX4_init : MethodName := ⟨RX4, "<init>", "()V"⟩
abbrev cX4_beginAnew : ByteArray := prog_6_method_2_code
def yX4_beginAnew : MethodName := ⟨RX4, "beginAnew", "(I)V"⟩
abbrev cX4_replicaOf : ByteArray := prog_6_method_3_code
def yX4_replicaOf : MethodName := ⟨RX4, "replicaOf", "(I)LSideVersions$Replica;"⟩
abbrev cX4_greatestRow : ByteArray := prog_6_method_4_code
def yX4_greatestRow : MethodName := ⟨RX4, "greatestRow", "()I"⟩
abbrev cX4_holders : ByteArray := prog_6_method_5_code
def yX4_holders : MethodName := ⟨RX4, "holders", "(I)I"⟩
abbrev cX4_isLost : ByteArray := prog_6_method_6_code
def yX4_isLost : MethodName := ⟨RX4, "isLost", "(I)Z"⟩
abbrev cX4_lostTotal : ByteArray := prog_6_method_7_code
def yX4_lostTotal : MethodName := ⟨RX4, "lostTotal", "()I"⟩
abbrev cX4_isWithin : ByteArray := prog_6_method_8_code
def yX4_isWithin : MethodName := ⟨RX4, "isWithin", "(II)Z"⟩
def RX5 : String := "SideVersions$MergeRules"
def TX5 : u_T := fun k => match k with
  | 0 => ("SideVersions$MergeRules", "owners", "[I", true)
  | 1 => ("SideVersions$MergeRules", "given", "[I", true)
  | _ => ("SideVersions$MergeRules", "size", "I", false)
def tyX5 : Nat → FieldType := fun k => match k with
  | 0 => .array .int
  | 1 => .array .int
  | _ => .int
abbrev wsX50 : List Cond := u_ws RX5 TX5 3
theorem nmX5 : ∀ a, a < 3 → ∀ b, b < 3 → a ≠ b → (TX5 a).2.1 ≠ (TX5 b).2.1 := by decide +kernel
theorem tyX5_ok : ∀ k, k < 3 → parseFieldDescriptor (TX5 k).2.2.1 = some (tyX5 k) := by decide +kernel
abbrev cX5_init : ByteArray := prog_7_method_1_code
def yX5_init : MethodName := ⟨RX5, "<init>", "()V"⟩
abbrev cX5_forget : ByteArray := prog_7_method_2_code
def yX5_forget : MethodName := ⟨RX5, "forget", "()V"⟩
abbrev cX5_give : ByteArray := prog_7_method_3_code
def yX5_give : MethodName := ⟨RX5, "give", "(II)I"⟩
abbrev cX5_ruleOf : ByteArray := prog_7_method_4_code
def yX5_ruleOf : MethodName := ⟨RX5, "ruleOf", "(I)I"⟩
abbrev cX5_keyAtPlace : ByteArray := prog_7_method_5_code
def yX5_keyAtPlace : MethodName := ⟨RX5, "keyAtPlace", "(I)I"⟩
abbrev cX5_ruleAtPlace : ByteArray := prog_7_method_6_code
def yX5_ruleAtPlace : MethodName := ⟨RX5, "ruleAtPlace", "(I)I"⟩
abbrev cX5_isPlace : ByteArray := prog_7_method_7_code
def yX5_isPlace : MethodName := ⟨RX5, "isPlace", "(I)Z"⟩
abbrev cX5_placeOf : ByteArray := prog_7_method_8_code
def yX5_placeOf : MethodName := ⟨RX5, "placeOf", "(I)I"⟩
def RX6 : String := "SideVersions$Merger"
def TX6 : u_T := fun k => match k with
  | 0 => ("SideVersions$Merger", "kind", "I", false)
  | 1 => ("SideVersions$Merger", "rule", "I", false)
  | 2 => ("SideVersions$Merger", "value", "J", false)
  | _ => ("SideVersions$Merger", "over", "Z", false)
def tyX6 : Nat → FieldType := fun k => match k with
  | 0 => .int
  | 1 => .int
  | 2 => .long
  | _ => .boolean
abbrev wsX60 : List Cond := u_ws RX6 TX6 4
theorem nmX6 : ∀ a, a < 4 → ∀ b, b < 4 → a ≠ b → (TX6 a).2.1 ≠ (TX6 b).2.1 := by decide +kernel
theorem tyX6_ok : ∀ k, k < 4 → parseFieldDescriptor (TX6 k).2.2.1 = some (tyX6 k) := by decide +kernel
abbrev cX6_init : ByteArray := prog_8_method_1_code
def yX6_init : MethodName := ⟨RX6, "<init>", "()V"⟩
abbrev cX6_begin : ByteArray := prog_8_method_2_code
def yX6_begin : MethodName := ⟨RX6, "begin", "(II)V"⟩
abbrev cX6_add : ByteArray := prog_8_method_3_code
def yX6_add : MethodName := ⟨RX6, "add", "(J)V"⟩
abbrev cX6_end : ByteArray := prog_8_method_4_code
def yX6_end : MethodName := ⟨RX6, "end", "()V"⟩
abbrev cX6_putTogether : ByteArray := prog_8_method_5_code
def yX6_putTogether : MethodName := ⟨RX6, "putTogether", "(J)V"⟩
abbrev cX6_keepCommon : ByteArray := prog_8_method_6_code
def yX6_keepCommon : MethodName := ⟨RX6, "keepCommon", "(J)V"⟩
abbrev cX6_divisorOf : ByteArray := prog_8_method_7_code
def yX6_divisorOf : MethodName := ⟨RX6, "divisorOf", "(JJ)J"⟩
def RX7 : String := "SideVersions$Plan"
def TX7 : u_T := fun k => match k with
  | 0 => ("SideVersions$Plan", "kinds", "[I", true)
  | 1 => ("SideVersions$Plan", "sites", "I", false)
  | 2 => ("SideVersions$Plan", "bound", "I", false)
  | 3 => ("SideVersions$Plan", "limit", "I", false)
  | 4 => ("SideVersions$Plan", "keyTotal", "I", false)
  | _ => ("SideVersions$Plan", "items", "I", false)
def tyX7 : Nat → FieldType := fun k => match k with
  | 0 => .array .int
  | 1 => .int
  | 2 => .int
  | 3 => .int
  | 4 => .int
  | _ => .int
abbrev wsX70 : List Cond := u_ws RX7 TX7 6
theorem nmX7 : ∀ a, a < 6 → ∀ b, b < 6 → a ≠ b → (TX7 a).2.1 ≠ (TX7 b).2.1 := by decide +kernel
theorem tyX7_ok : ∀ k, k < 6 → parseFieldDescriptor (TX7 k).2.2.1 = some (tyX7 k) := by decide +kernel
abbrev cX7_init : ByteArray := prog_9_method_1_code
def yX7_init : MethodName := ⟨RX7, "<init>", "()V"⟩
abbrev cX7_fill : ByteArray := prog_9_method_2_code
def yX7_fill : MethodName := ⟨RX7, "fill", "(LSideVersions$Text;)I"⟩
abbrev cX7_kindOf : ByteArray := prog_9_method_3_code
def yX7_kindOf : MethodName := ⟨RX7, "kindOf", "(I)I"⟩
abbrev cX7_forget : ByteArray := prog_9_method_4_code
def yX7_forget : MethodName := ⟨RX7, "forget", "()V"⟩
abbrev cX7_putUsual : ByteArray := prog_9_method_5_code
def yX7_putUsual : MethodName := ⟨RX7, "putUsual", "()V"⟩
abbrev cX7_takesWords : ByteArray := prog_9_method_6_code
def yX7_takesWords : MethodName := ⟨RX7, "takesWords", "(LSideVersions$Text;)Z"⟩
abbrev cX7_takesKey : ByteArray := prog_9_method_7_code
def yX7_takesKey : MethodName := ⟨RX7, "takesKey", "(I)Z"⟩
abbrev cX7_takenNumber : ByteArray := prog_9_method_8_code
def yX7_takenNumber : MethodName := ⟨RX7, "takenNumber", "(LSideVersions$Text;II)I"⟩
abbrev cX7_takesSemicolon : ByteArray := prog_9_method_9_code
def yX7_takesSemicolon : MethodName := ⟨RX7, "takesSemicolon", "(LSideVersions$Text;)Z"⟩
def RX8 : String := "SideVersions$Replica"
def TX8 : u_T := fun k => match k with
  | 0 => ("SideVersions$Replica", "site", "I", true)
  | 1 => ("SideVersions$Replica", "journal", "LSideVersions$Journal;", true)
  | 2 => ("SideVersions$Replica", "siblings", "LSideVersions$Dots;", true)
  | _ => ("SideVersions$Replica", "numbers", "I", false)
def tyX8 : Nat → FieldType := fun k => match k with
  | 0 => .int
  | 1 => .object "SideVersions$Journal"
  | 2 => .object "SideVersions$Dots"
  | _ => .int
abbrev wsX80 : List Cond := u_ws RX8 TX8 4
theorem nmX8 : ∀ a, a < 4 → ∀ b, b < 4 → a ≠ b → (TX8 a).2.1 ≠ (TX8 b).2.1 := by decide +kernel
theorem tyX8_ok : ∀ k, k < 4 → parseFieldDescriptor (TX8 k).2.2.1 = some (tyX8 k) := by decide +kernel
abbrev cX8_init : ByteArray := prog_10_method_1_code
def yX8_init : MethodName := ⟨RX8, "<init>", "(ILSideVersions$Journal;)V"⟩
abbrev cX8_beginAnew : ByteArray := prog_10_method_2_code
def yX8_beginAnew : MethodName := ⟨RX8, "beginAnew", "()V"⟩
abbrev cX8_nextNumber : ByteArray := prog_10_method_3_code
def yX8_nextNumber : MethodName := ⟨RX8, "nextNumber", "()I"⟩
abbrev cX8_take : ByteArray := prog_10_method_4_code
def yX8_take : MethodName := ⟨RX8, "take", "(JIII)V"⟩
abbrev cX8_receive : ByteArray := prog_10_method_5_code
def yX8_receive : MethodName := ⟨RX8, "receive", "(LSideVersions$Replica;)V"⟩
abbrev cX8_dropBeyond : ByteArray := prog_10_method_6_code
def yX8_dropBeyond : MethodName := ⟨RX8, "dropBeyond", "(I)V"⟩
abbrev cX8_blend : ByteArray := prog_10_method_7_code
def yX8_blend : MethodName := ⟨RX8, "blend", "(LSideVersions$Merger;I)V"⟩
abbrev cX8_mergeInto : ByteArray := prog_10_method_8_code
def yX8_mergeInto : MethodName := ⟨RX8, "mergeInto", "(JI)V"⟩
abbrev cX8_covered : ByteArray := prog_10_method_9_code
def yX8_covered : MethodName := ⟨RX8, "covered", "(I)J"⟩
abbrev cX8_gone : ByteArray := prog_10_method_10_code
def yX8_gone : MethodName := ⟨RX8, "gone", "(I)J"⟩
def RX9 : String := "SideVersions$Rows"
def TX9 : u_T := fun k => match k with
  | _ => ("", "", "", false)
def tyX9 : Nat → FieldType := fun k => match k with
  | _ => .int
abbrev wsX90 : List Cond := u_ws RX9 TX9 0
theorem nmX9 : ∀ a, a < 0 → ∀ b, b < 0 → a ≠ b → (TX9 a).2.1 ≠ (TX9 b).2.1 := by decide +kernel
theorem tyX9_ok : ∀ k, k < 0 → parseFieldDescriptor (TX9 k).2.2.1 = some (tyX9 k) := by decide +kernel
abbrev cX9_number : ByteArray := prog_11_method_2_code
def yX9_number : MethodName := ⟨RX9, "number", "(II)I"⟩
abbrev cX9_with : ByteArray := prog_11_method_3_code
def yX9_with : MethodName := ⟨RX9, "with", "(III)I"⟩
abbrev cX9_greater : ByteArray := prog_11_method_4_code
def yX9_greater : MethodName := ⟨RX9, "greater", "(II)I"⟩
abbrev cX9_sum : ByteArray := prog_11_method_5_code
def yX9_sum : MethodName := ⟨RX9, "sum", "(I)I"⟩
abbrev cX9_aboveZero : ByteArray := prog_11_method_6_code
def yX9_aboveZero : MethodName := ⟨RX9, "aboveZero", "(I)I"⟩
def RX10 : String := "SideVersions$Text"
def TX10 : u_T := fun k => match k with
  | 0 => ("SideVersions$Text", "bytes", "[I", true)
  | 1 => ("SideVersions$Text", "length", "I", false)
  | 2 => ("SideVersions$Text", "start", "I", false)
  | 3 => ("SideVersions$Text", "end", "I", false)
  | _ => ("SideVersions$Text", "sort", "I", false)
def tyX10 : Nat → FieldType := fun k => match k with
  | 0 => .array .int
  | 1 => .int
  | 2 => .int
  | 3 => .int
  | _ => .int
abbrev wsX100 : List Cond := u_ws RX10 TX10 5
theorem nmX10 : ∀ a, a < 5 → ∀ b, b < 5 → a ≠ b → (TX10 a).2.1 ≠ (TX10 b).2.1 := by decide +kernel
theorem tyX10_ok : ∀ k, k < 5 → parseFieldDescriptor (TX10 k).2.2.1 = some (tyX10 k) := by decide +kernel
abbrev cX10_init : ByteArray := prog_12_method_1_code
def yX10_init : MethodName := ⟨RX10, "<init>", "()V"⟩
abbrev cX10_isFull : ByteArray := prog_12_method_2_code
def yX10_isFull : MethodName := ⟨RX10, "isFull", "()Z"⟩
abbrev cX10_append : ByteArray := prog_12_method_3_code
def yX10_append : MethodName := ⟨RX10, "append", "(I)V"⟩
abbrev cX10_empty : ByteArray := prog_12_method_4_code
def yX10_empty : MethodName := ⟨RX10, "empty", "()V"⟩
abbrev cX10_rewind : ByteArray := prog_12_method_5_code
def yX10_rewind : MethodName := ⟨RX10, "rewind", "()V"⟩
abbrev cX10_step : ByteArray := prog_12_method_6_code
def yX10_step : MethodName := ⟨RX10, "step", "()V"⟩
abbrev cX10_isWord : ByteArray := prog_12_method_7_code
def yX10_isWord : MethodName := ⟨RX10, "isWord", "(Ljava/lang/String;)Z"⟩
abbrev cX10_digit : ByteArray := prog_12_method_8_code
def yX10_digit : MethodName := ⟨RX10, "digit", "()I"⟩
abbrev cX10_byteAt : ByteArray := prog_12_method_9_code
def yX10_byteAt : MethodName := ⟨RX10, "byteAt", "(I)I"⟩
abbrev cX10_sortAt : ByteArray := prog_12_method_10_code
def yX10_sortAt : MethodName := ⟨RX10, "sortAt", "(I)I"⟩
def RX11 : String := "SideVersions"
def TX11 : u_T := fun k => match k with
  | 0 => ("SideVersions", "text", "LSideVersions$Text;", true)
  | 1 => ("SideVersions", "plan", "LSideVersions$Plan;", true)
  | 2 => ("SideVersions", "keys", "[LSideVersions$Key;", true)
  | 3 => ("SideVersions", "clients", "[LSideVersions$Client;", true)
  | 4 => ("SideVersions", "mergeRules", "LSideVersions$MergeRules;", true)
  | 5 => ("SideVersions", "merger", "LSideVersions$Merger;", true)
  | 6 => ("SideVersions", "gossip", "LSideVersions$Gossip;", true)
  | 7 => ("SideVersions", "sites", "I", false)
  | 8 => ("SideVersions", "bound", "I", false)
  | 9 => ("SideVersions", "limit", "I", false)
  | 10 => ("SideVersions", "keyTotal", "I", false)
  | _ => ("SideVersions", "lastStamp", "I", false)
def tyX11 : Nat → FieldType := fun k => match k with
  | 0 => .object "SideVersions$Text"
  | 1 => .object "SideVersions$Plan"
  | 2 => .array (.object "SideVersions$Key")
  | 3 => .array (.object "SideVersions$Client")
  | 4 => .object "SideVersions$MergeRules"
  | 5 => .object "SideVersions$Merger"
  | 6 => .object "SideVersions$Gossip"
  | 7 => .int
  | 8 => .int
  | 9 => .int
  | 10 => .int
  | _ => .int
abbrev wsX110 : List Cond := u_ws RX11 TX11 12
theorem nmX11 : ∀ a, a < 12 → ∀ b, b < 12 → a ≠ b → (TX11 a).2.1 ≠ (TX11 b).2.1 := by decide +kernel
theorem tyX11_ok : ∀ k, k < 12 → parseFieldDescriptor (TX11 k).2.2.1 = some (tyX11 k) := by decide +kernel
abbrev cX11_init : ByteArray := prog_1_method_1_code
def yX11_init : MethodName := ⟨RX11, "<init>", "()V"⟩
abbrev cX11_type : ByteArray := prog_1_method_2_code
def yX11_type : MethodName := ⟨RX11, "type", "(I)I"⟩
abbrev cX11_clear : ByteArray := prog_1_method_3_code
def yX11_clear : MethodName := ⟨RX11, "clear", "()I"⟩
abbrev cX11_tells : ByteArray := prog_1_method_4_code
def yX11_tells : MethodName := ⟨RX11, "tells", "()I"⟩
abbrev cX11_reads : ByteArray := prog_1_method_5_code
def yX11_reads : MethodName := ⟨RX11, "reads", "(III)I"⟩
abbrev cX11_writes : ByteArray := prog_1_method_6_code
def yX11_writes : MethodName := ⟨RX11, "writes", "(IIIIJ)I"⟩
abbrev cX11_blinds : ByteArray := prog_1_method_7_code
def yX11_blinds : MethodName := ⟨RX11, "blinds", "(I)I"⟩
abbrev cX11_sends : ByteArray := prog_1_method_8_code
def yX11_sends : MethodName := ⟨RX11, "sends", "(III)I"⟩
abbrev cX11_merges : ByteArray := prog_1_method_9_code
def yX11_merges : MethodName := ⟨RX11, "merges", "(II)I"⟩
abbrev cX11_rules : ByteArray := prog_1_method_10_code
def yX11_rules : MethodName := ⟨RX11, "rules", "(II)I"⟩
abbrev cX11_row : ByteArray := prog_1_method_11_code
def yX11_row : MethodName := ⟨RX11, "row", "(III)I"⟩
abbrev cX11_sibling : ByteArray := prog_1_method_12_code
def yX11_sibling : MethodName := ⟨RX11, "sibling", "(IIII)J"⟩
abbrev cX11_context : ByteArray := prog_1_method_13_code
def yX11_context : MethodName := ⟨RX11, "context", "(II)I"⟩
abbrev cX11_write : ByteArray := prog_1_method_14_code
def yX11_write : MethodName := ⟨RX11, "write", "(IIII)J"⟩
abbrev cX11_ahead : ByteArray := prog_1_method_15_code
def yX11_ahead : MethodName := ⟨RX11, "ahead", "(IIIIII)I"⟩
abbrev cX11_alike : ByteArray := prog_1_method_16_code
def yX11_alike : MethodName := ⟨RX11, "alike", "(III)I"⟩
abbrev cX11_behind : ByteArray := prog_1_method_17_code
def yX11_behind : MethodName := ⟨RX11, "behind", "(II)I"⟩
abbrev cX11_spread : ByteArray := prog_1_method_18_code
def yX11_spread : MethodName := ⟨RX11, "spread", "(II)I"⟩
abbrev cX11_rule : ByteArray := prog_1_method_19_code
def yX11_rule : MethodName := ⟨RX11, "rule", "(II)I"⟩
abbrev cX11_tally : ByteArray := prog_1_method_20_code
def yX11_tally : MethodName := ⟨RX11, "tally", "(II)I"⟩
abbrev cX11_count : ByteArray := prog_1_method_21_code
def yX11_count : MethodName := ⟨RX11, "count", "(I)I"⟩
abbrev cX11_beginAnew : ByteArray := prog_1_method_22_code
def yX11_beginAnew : MethodName := ⟨RX11, "beginAnew", "()V"⟩
abbrev cX11_isSite : ByteArray := prog_1_method_23_code
def yX11_isSite : MethodName := ⟨RX11, "isSite", "(I)Z"⟩
abbrev cX11_keyAt : ByteArray := prog_1_method_24_code
def yX11_keyAt : MethodName := ⟨RX11, "keyAt", "(I)LSideVersions$Key;"⟩
abbrev cX11_clientAt : ByteArray := prog_1_method_25_code
def yX11_clientAt : MethodName := ⟨RX11, "clientAt", "(I)LSideVersions$Client;"⟩
abbrev cX11_replicaAt : ByteArray := prog_1_method_26_code
def yX11_replicaAt : MethodName := ⟨RX11, "replicaAt", "(II)LSideVersions$Replica;"⟩
abbrev cX11_dotAt : ByteArray := prog_1_method_27_code
def yX11_dotAt : MethodName := ⟨RX11, "dotAt", "(III)I"⟩
abbrev cX11_bit : ByteArray := prog_1_method_28_code
def yX11_bit : MethodName := ⟨RX11, "bit", "(Z)I"⟩
def RX12 : String := "SideVersionsModel"
def TX12 : u_T := fun k => match k with
  | 0 => ("SideVersionsModel", "sites", "I", false)
  | 1 => ("SideVersionsModel", "bound", "I", false)
  | 2 => ("SideVersionsModel", "limit", "I", false)
  | 3 => ("SideVersionsModel", "keys", "I", false)
  | 4 => ("SideVersionsModel", "kind", "[I", true)
  | 5 => ("SideVersionsModel", "stamps", "I", false)
  | 6 => ("SideVersionsModel", "value", "[J", true)
  | 7 => ("SideVersionsModel", "stamp", "[I", true)
  | 8 => ("SideVersionsModel", "told", "[I", true)
  | 9 => ("SideVersionsModel", "known", "[I", true)
  | 10 => ("SideVersionsModel", "seen", "[Z", true)
  | 11 => ("SideVersionsModel", "dropped", "[Z", true)
  | 12 => ("SideVersionsModel", "replaced", "[Z", true)
  | 13 => ("SideVersionsModel", "merged", "[Z", true)
  | 14 => ("SideVersionsModel", "beside", "[I", true)
  | 15 => ("SideVersionsModel", "made", "[I", true)
  | 16 => ("SideVersionsModel", "row", "[I", true)
  | 17 => ("SideVersionsModel", "falses", "[I", true)
  | 18 => ("SideVersionsModel", "contextKey", "[I", true)
  | 19 => ("SideVersionsModel", "contextKnows", "[I", true)
  | 20 => ("SideVersionsModel", "contextTells", "[I", true)
  | 21 => ("SideVersionsModel", "ruleMany", "I", false)
  | 22 => ("SideVersionsModel", "ruleKey", "[I", true)
  | 23 => ("SideVersionsModel", "rule", "[I", true)
  | 24 => ("SideVersionsModel", "letterMany", "I", false)
  | 25 => ("SideVersionsModel", "text", "[I", true)
  | 26 => ("SideVersionsModel", "readAt", "I", false)
  | 27 => ("SideVersionsModel", "tokenAt", "I", false)
  | 28 => ("SideVersionsModel", "sort", "I", false)
  | 29 => ("SideVersionsModel", "token", "J", false)
  | 30 => ("SideVersionsModel", "newSites", "I", false)
  | 31 => ("SideVersionsModel", "newBound", "I", false)
  | 32 => ("SideVersionsModel", "newLimit", "I", false)
  | 33 => ("SideVersionsModel", "newKeys", "I", false)
  | 34 => ("SideVersionsModel", "newKind", "[I", true)
  | 35 => ("SideVersionsModel", "isOver", "Z", false)
  | 36 => ("SideVersionsModel", "setRow", "[I", true)
  | 37 => ("SideVersionsModel", "setBeside", "[J", true)
  | 38 => ("SideVersionsModel", "like", "[I", true)
  | 39 => ("SideVersionsModel", "far", "[I", true)
  | _ => ("SideVersionsModel", "queue", "[I", true)
def tyX12 : Nat → FieldType := fun k => match k with
  | 0 => .int
  | 1 => .int
  | 2 => .int
  | 3 => .int
  | 4 => .array .int
  | 5 => .int
  | 6 => .array .long
  | 7 => .array .int
  | 8 => .array .int
  | 9 => .array .int
  | 10 => .array .boolean
  | 11 => .array .boolean
  | 12 => .array .boolean
  | 13 => .array .boolean
  | 14 => .array .int
  | 15 => .array .int
  | 16 => .array .int
  | 17 => .array .int
  | 18 => .array .int
  | 19 => .array .int
  | 20 => .array .int
  | 21 => .int
  | 22 => .array .int
  | 23 => .array .int
  | 24 => .int
  | 25 => .array .int
  | 26 => .int
  | 27 => .int
  | 28 => .int
  | 29 => .long
  | 30 => .int
  | 31 => .int
  | 32 => .int
  | 33 => .int
  | 34 => .array .int
  | 35 => .boolean
  | 36 => .array .int
  | 37 => .array .long
  | 38 => .array .int
  | 39 => .array .int
  | _ => .array .int
abbrev wsX120 : List Cond := u_ws RX12 TX12 41
theorem nmX12 : ∀ a, a < 41 → ∀ b, b < 41 → a ≠ b → (TX12 a).2.1 ≠ (TX12 b).2.1 := by decide +kernel
theorem tyX12_ok : ∀ k, k < 41 → parseFieldDescriptor (TX12 k).2.2.1 = some (tyX12 k) := by decide +kernel
abbrev cX12_init : ByteArray := prog_14_method_1_code
def yX12_init : MethodName := ⟨RX12, "<init>", "()V"⟩
abbrev cX12_in : ByteArray := prog_14_method_2_code
def yX12_in : MethodName := ⟨RX12, "in", "(JJJ)Z"⟩
abbrev cX12_has : ByteArray := prog_14_method_3_code
def yX12_has : MethodName := ⟨RX12, "has", "(II)Z"⟩
abbrev cX12_begins : ByteArray := prog_14_method_4_code
def yX12_begins : MethodName := ⟨RX12, "begins", "()V"⟩
abbrev cX12_forgets : ByteArray := prog_14_method_5_code
def yX12_forgets : MethodName := ⟨RX12, "forgets", "()V"⟩
abbrev cX12_at : ByteArray := prog_14_method_6_code
def yX12_at : MethodName := ⟨RX12, "at", "(III)I"⟩
abbrev cX12_rowAt : ByteArray := prog_14_method_7_code
def yX12_rowAt : MethodName := ⟨RX12, "rowAt", "(II)I"⟩
abbrev cX12_isSite : ByteArray := prog_14_method_8_code
def yX12_isSite : MethodName := ⟨RX12, "isSite", "(I)Z"⟩
abbrev cX12_isKey : ByteArray := prog_14_method_9_code
def yX12_isKey : MethodName := ⟨RX12, "isKey", "(I)Z"⟩
abbrev cX12_isClient : ByteArray := prog_14_method_10_code
def yX12_isClient : MethodName := ⟨RX12, "isClient", "(I)Z"⟩
abbrev cX12_isWrite : ByteArray := prog_14_method_11_code
def yX12_isWrite : MethodName := ⟨RX12, "isWrite", "(III)Z"⟩
abbrev cX12_type : ByteArray := prog_14_method_12_code
def yX12_type : MethodName := ⟨RX12, "type", "(I)I"⟩
abbrev cX12_clear : ByteArray := prog_14_method_13_code
def yX12_clear : MethodName := ⟨RX12, "clear", "()I"⟩
abbrev cX12_isBetween : ByteArray := prog_14_method_14_code
def yX12_isBetween : MethodName := ⟨RX12, "isBetween", "(II)Z"⟩
abbrev cX12_next : ByteArray := prog_14_method_15_code
def yX12_next : MethodName := ⟨RX12, "next", "()V"⟩
abbrev cX12_word : ByteArray := prog_14_method_16_code
def yX12_word : MethodName := ⟨RX12, "word", "(IIIII)J"⟩
abbrev cX12_number : ByteArray := prog_14_method_17_code
def yX12_number : MethodName := ⟨RX12, "number", "(II)Z"⟩
abbrev cX12_stops : ByteArray := prog_14_method_18_code
def yX12_stops : MethodName := ⟨RX12, "stops", "()Z"⟩
abbrev cX12_readsItem : ByteArray := prog_14_method_19_code
def yX12_readsItem : MethodName := ⟨RX12, "readsItem", "()Z"⟩
abbrev cX12_tells : ByteArray := prog_14_method_20_code
def yX12_tells : MethodName := ⟨RX12, "tells", "()I"⟩
abbrev cX12_siblings : ByteArray := prog_14_method_21_code
def yX12_siblings : MethodName := ⟨RX12, "siblings", "(II)I"⟩
abbrev cX12_eldest : ByteArray := prog_14_method_22_code
def yX12_eldest : MethodName := ⟨RX12, "eldest", "(II)I"⟩
abbrev cX12_bounds : ByteArray := prog_14_method_23_code
def yX12_bounds : MethodName := ⟨RX12, "bounds", "(II)V"⟩
abbrev cX12_reads : ByteArray := prog_14_method_24_code
def yX12_reads : MethodName := ⟨RX12, "reads", "(III)I"⟩
abbrev cX12_comes : ByteArray := prog_14_method_25_code
def yX12_comes : MethodName := ⟨RX12, "comes", "(IIJ)I"⟩
abbrev cX12_writes : ByteArray := prog_14_method_26_code
def yX12_writes : MethodName := ⟨RX12, "writes", "(IIIIJ)I"⟩
abbrev cX12_blinds : ByteArray := prog_14_method_27_code
def yX12_blinds : MethodName := ⟨RX12, "blinds", "(I)I"⟩
abbrev cX12_sends : ByteArray := prog_14_method_28_code
def yX12_sends : MethodName := ⟨RX12, "sends", "(III)I"⟩
abbrev cX12_sum : ByteArray := prog_14_method_29_code
def yX12_sum : MethodName := ⟨RX12, "sum", "(JJ)J"⟩
abbrev cX12_common : ByteArray := prog_14_method_30_code
def yX12_common : MethodName := ⟨RX12, "common", "(JJ)J"⟩
abbrev cX12_joined : ByteArray := prog_14_method_31_code
def yX12_joined : MethodName := ⟨RX12, "joined", "(IIJJ)J"⟩
abbrev cX12_ruleOf : ByteArray := prog_14_method_32_code
def yX12_ruleOf : MethodName := ⟨RX12, "ruleOf", "(I)I"⟩
abbrev cX12_joinedAll : ByteArray := prog_14_method_33_code
def yX12_joinedAll : MethodName := ⟨RX12, "joinedAll", "(III)J"⟩
abbrev cX12_merges : ByteArray := prog_14_method_34_code
def yX12_merges : MethodName := ⟨RX12, "merges", "(II)I"⟩
abbrev cX12_rules : ByteArray := prog_14_method_35_code
def yX12_rules : MethodName := ⟨RX12, "rules", "(II)I"⟩
abbrev cX12_row : ByteArray := prog_14_method_36_code
def yX12_row : MethodName := ⟨RX12, "row", "(III)I"⟩
abbrev cX12_sibling : ByteArray := prog_14_method_37_code
def yX12_sibling : MethodName := ⟨RX12, "sibling", "(IIII)J"⟩
abbrev cX12_context : ByteArray := prog_14_method_38_code
def yX12_context : MethodName := ⟨RX12, "context", "(II)I"⟩
abbrev cX12_bit : ByteArray := prog_14_method_39_code
def yX12_bit : MethodName := ⟨RX12, "bit", "(Z)I"⟩
abbrev cX12_isLost : ByteArray := prog_14_method_40_code
def yX12_isLost : MethodName := ⟨RX12, "isLost", "(I)Z"⟩
abbrev cX12_write : ByteArray := prog_14_method_41_code
def yX12_write : MethodName := ⟨RX12, "write", "(IIII)J"⟩
abbrev cX12_ahead : ByteArray := prog_14_method_42_code
def yX12_ahead : MethodName := ⟨RX12, "ahead", "(IIIIII)I"⟩
abbrev cX12_areAlike : ByteArray := prog_14_method_43_code
def yX12_areAlike : MethodName := ⟨RX12, "areAlike", "(III)Z"⟩
abbrev cX12_alike : ByteArray := prog_14_method_44_code
def yX12_alike : MethodName := ⟨RX12, "alike", "(III)I"⟩
abbrev cX12_behind : ByteArray := prog_14_method_45_code
def yX12_behind : MethodName := ⟨RX12, "behind", "(II)I"⟩
abbrev cX12_joinsSet : ByteArray := prog_14_method_46_code
def yX12_joinsSet : MethodName := ⟨RX12, "joinsSet", "(III)V"⟩
abbrev cX12_areLike : ByteArray := prog_14_method_47_code
def yX12_areLike : MethodName := ⟨RX12, "areLike", "(II)Z"⟩
abbrev cX12_laysSets : ByteArray := prog_14_method_48_code
def yX12_laysSets : MethodName := ⟨RX12, "laysSets", "(I)V"⟩
abbrev cX12_setOf : ByteArray := prog_14_method_49_code
def yX12_setOf : MethodName := ⟨RX12, "setOf", "(II)I"⟩
abbrev cX12_isAll : ByteArray := prog_14_method_50_code
def yX12_isAll : MethodName := ⟨RX12, "isAll", "(I)Z"⟩
abbrev cX12_sent : ByteArray := prog_14_method_51_code
def yX12_sent : MethodName := ⟨RX12, "sent", "(III)I"⟩
abbrev cX12_fewest : ByteArray := prog_14_method_52_code
def yX12_fewest : MethodName := ⟨RX12, "fewest", "(I)I"⟩
abbrev cX12_spread : ByteArray := prog_14_method_53_code
def yX12_spread : MethodName := ⟨RX12, "spread", "(II)I"⟩
abbrev cX12_rule : ByteArray := prog_14_method_54_code
def yX12_rule : MethodName := ⟨RX12, "rule", "(II)I"⟩
abbrev cX12_counted : ByteArray := prog_14_method_55_code
def yX12_counted : MethodName := ⟨RX12, "counted", "(II)I"⟩
abbrev cX12_tally : ByteArray := prog_14_method_56_code
def yX12_tally : MethodName := ⟨RX12, "tally", "(II)I"⟩
abbrev cX12_count : ByteArray := prog_14_method_57_code
def yX12_count : MethodName := ⟨RX12, "count", "(I)I"⟩
def RJ13 : String := "java/lang/Long"
def TJ13 : u_T := fun k => match k with
  | _ => ("", "", "", false)
def tyJ13 : Nat → FieldType := fun k => match k with
  | _ => .int
abbrev wsJ130 : List Cond := u_ws RJ13 TJ13 0
theorem nmJ13 : ∀ a, a < 0 → ∀ b, b < 0 → a ≠ b → (TJ13 a).2.1 ≠ (TJ13 b).2.1 := by decide +kernel
theorem tyJ13_ok : ∀ k, k < 0 → parseFieldDescriptor (TJ13 k).2.2.1 = some (tyJ13 k) := by decide +kernel
abbrev cJ13_bitCount_95d88 : ByteArray := prog_15_method_50_code
def yJ13_bitCount_95d88 : MethodName := ⟨RJ13, "bitCount", "(J)I"⟩
def RJ9 : String := "java/lang/Math"
def TJ9 : u_T := fun k => match k with
  | _ => ("", "", "", false)
def tyJ9 : Nat → FieldType := fun k => match k with
  | _ => .int
abbrev wsJ90 : List Cond := u_ws RJ9 TJ9 0
theorem nmJ9 : ∀ a, a < 0 → ∀ b, b < 0 → a ≠ b → (TJ9 a).2.1 ≠ (TJ9 b).2.1 := by decide +kernel
theorem tyJ9_ok : ∀ k, k < 0 → parseFieldDescriptor (TJ9 k).2.2.1 = some (tyJ9 k) := by decide +kernel
abbrev cJ9_max_7cf53 : ByteArray := prog_16_method_65_code
def yJ9_max_7cf53 : MethodName := ⟨RJ9, "max", "(II)I"⟩
abbrev cJ9_max_f86c9 : ByteArray := prog_16_method_66_code
def yJ9_max_f86c9 : MethodName := ⟨RJ9, "max", "(JJ)J"⟩
abbrev cJ9_min_7cf53 : ByteArray := prog_16_method_69_code
def yJ9_min_7cf53 : MethodName := ⟨RJ9, "min", "(II)I"⟩
abbrev cJ9_min_f86c9 : ByteArray := prog_16_method_70_code
def yJ9_min_f86c9 : MethodName := ⟨RJ9, "min", "(JJ)J"⟩
def RJ0 : String := "java/lang/String"
def TJ0 : u_T := fun k => match k with
  | _ => ("", "", "", false)
def tyJ0 : Nat → FieldType := fun k => match k with
  | _ => .int
abbrev wsJ00 : List Cond := u_ws RJ0 TJ0 0
theorem nmJ0 : ∀ a, a < 0 → ∀ b, b < 0 → a ≠ b → (TJ0 a).2.1 ≠ (TJ0 b).2.1 := by decide +kernel
theorem tyJ0_ok : ∀ k, k < 0 → parseFieldDescriptor (TJ0 k).2.2.1 = some (tyJ0 k) := by decide +kernel
abbrev cJ0_length_8abf5 : ByteArray := prog_17_method_54_code
def yJ0_length_8abf5 : MethodName := ⟨RJ0, "length", "()I"⟩
abbrev cJ0_charAt_5068e : ByteArray := prog_17_method_56_code
def yJ0_charAt_5068e : MethodName := ⟨RJ0, "charAt", "(I)C"⟩
abbrev cJ0_coder_7d493 : ByteArray := prog_17_method_152_code
def yJ0_coder_7d493 : MethodName := ⟨RJ0, "coder", "()B"⟩
abbrev cJ0_isLatin1_aae02 : ByteArray := prog_17_method_154_code
def yJ0_isLatin1_aae02 : MethodName := ⟨RJ0, "isLatin1", "()Z"⟩
abbrev cJ0_checkIndex_df160 : ByteArray := prog_17_method_155_code
def yJ0_checkIndex_df160 : MethodName := ⟨RJ0, "checkIndex", "(II)V"⟩
def RJ1 : String := "java/lang/StringLatin1"
def TJ1 : u_T := fun k => match k with
  | _ => ("", "", "", false)
def tyJ1 : Nat → FieldType := fun k => match k with
  | _ => .int
abbrev wsJ10 : List Cond := u_ws RJ1 TJ1 0
theorem nmJ1 : ∀ a, a < 0 → ∀ b, b < 0 → a ≠ b → (TJ1 a).2.1 ≠ (TJ1 b).2.1 := by decide +kernel
theorem tyJ1_ok : ∀ k, k < 0 → parseFieldDescriptor (TJ1 k).2.2.1 = some (tyJ1 k) := by decide +kernel
abbrev cJ1_charAt_3b067 : ByteArray := prog_18_method_2_code
def yJ1_charAt_3b067 : MethodName := ⟨RJ1, "charAt", "([BI)C"⟩
def RJ2 : String := "java/lang/StringUTF16"
def TJ2 : u_T := fun k => match k with
  | _ => ("", "", "", false)
def tyJ2 : Nat → FieldType := fun k => match k with
  | _ => .int
abbrev wsJ20 : List Cond := u_ws RJ2 TJ2 0
theorem nmJ2 : ∀ a, a < 0 → ∀ b, b < 0 → a ≠ b → (TJ2 a).2.1 ≠ (TJ2 b).2.1 := by decide +kernel
theorem tyJ2_ok : ∀ k, k < 0 → parseFieldDescriptor (TJ2 k).2.2.1 = some (tyJ2 k) := by decide +kernel
abbrev cJ2_getChar_3b067 : ByteArray := prog_19_method_5_code
def yJ2_getChar_3b067 : MethodName := ⟨RJ2, "getChar", "([BI)C"⟩
abbrev cJ2_length_9d52b : ByteArray := prog_19_method_6_code
def yJ2_length_9d52b : MethodName := ⟨RJ2, "length", "([B)I"⟩
abbrev cJ2_charAt_3b067 : ByteArray := prog_19_method_83_code
def yJ2_charAt_3b067 : MethodName := ⟨RJ2, "charAt", "([BI)C"⟩
abbrev cJ2_checkIndex_2214a : ByteArray := prog_19_method_91_code
def yJ2_checkIndex_2214a : MethodName := ⟨RJ2, "checkIndex", "(I[B)V"⟩
def RJ3 : String := "jdk/internal/util/Preconditions"
def TJ3 : u_T := fun k => match k with
  | _ => ("", "", "", false)
def tyJ3 : Nat → FieldType := fun k => match k with
  | _ => .int
abbrev wsJ30 : List Cond := u_ws RJ3 TJ3 0
theorem nmJ3 : ∀ a, a < 0 → ∀ b, b < 0 → a ≠ b → (TJ3 a).2.1 ≠ (TJ3 b).2.1 := by decide +kernel
theorem tyJ3_ok : ∀ k, k < 0 → parseFieldDescriptor (TJ3 k).2.2.1 = some (tyJ3 k) := by decide +kernel
abbrev cJ3_checkIndex_8e157 : ByteArray := prog_20_method_11_code
def yJ3_checkIndex_8e157 : MethodName := ⟨RJ3, "checkIndex", "(IILjava/util/function/BiFunction;)I"⟩
def RL : String := "SideVersionsLaw"
abbrev cL_law : ByteArray := code
def yL_law : MethodName := ⟨RL, "law", "([I)Z"⟩
abbrev vwCl : List vw_C := [(RX0, TX0, 3), (RX1, TX1, 1), (RX2, TX2, 3), (RX3, TX3, 11), (RX4, TX4, 2), (RX5, TX5, 3), (RX6, TX6, 4), (RX7, TX7, 6), (RX8, TX8, 4), (RX10, TX10, 5), (RX11, TX11, 12), (RX12, TX12, 41)]
