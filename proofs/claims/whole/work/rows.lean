section
-- ===== PART A: goes FIRST, ahead of the names: the tables' words, and 'selects' of the private methods out of them =====
/-- a private method of a class that the tables say can be made, by its rows of tables_1 -/
def lw_okq (q : MethodName × Nat) : Prop := (q.1.cls ≠ "java/lang/invoke/MethodHandle" ∧ q.1.cls ≠ "java/lang/invoke/VarHandle") ∧ Cond.instantiable q.1.cls q.2 ∈ tables_1 ∧ Cond.privateMethod q.1 ∈ tables_1 ∧ Cond.instanceMethod q.1 ∈ tables_1
theorem lw_p0 : lw_okq (⟨"SideVersions$Plan", "forget", "()V"⟩, 6) := ⟨⟨by decide +kernel, by decide +kernel⟩, List.mem_of_getElem? (i := 55) (by decide +kernel), List.mem_of_getElem? (i := 330) (by decide +kernel), List.mem_of_getElem? (i := 331) (by decide +kernel)⟩
theorem lw_p1 : lw_okq (⟨"SideVersions$Text", "sortAt", "(I)I"⟩, 5) := ⟨⟨by decide +kernel, by decide +kernel⟩, List.mem_of_getElem? (i := 29) (by decide +kernel), List.mem_of_getElem? (i := 342) (by decide +kernel), List.mem_of_getElem? (i := 343) (by decide +kernel)⟩
theorem lw_p2 : lw_okq (⟨"SideVersions$Text", "byteAt", "(I)I"⟩, 5) := ⟨⟨by decide +kernel, by decide +kernel⟩, List.mem_of_getElem? (i := 29) (by decide +kernel), List.mem_of_getElem? (i := 346) (by decide +kernel), List.mem_of_getElem? (i := 347) (by decide +kernel)⟩
theorem lw_p3 : lw_okq (⟨"SideVersions$Plan", "putUsual", "()V"⟩, 6) := ⟨⟨by decide +kernel, by decide +kernel⟩, List.mem_of_getElem? (i := 55) (by decide +kernel), List.mem_of_getElem? (i := 353) (by decide +kernel), List.mem_of_getElem? (i := 354) (by decide +kernel)⟩
theorem lw_p4 : lw_okq (⟨"SideVersions$Plan", "takesItem", "(LSideVersions$Text;)Z"⟩, 6) := ⟨⟨by decide +kernel, by decide +kernel⟩, List.mem_of_getElem? (i := 55) (by decide +kernel), List.mem_of_getElem? (i := 357) (by decide +kernel), List.mem_of_getElem? (i := 358) (by decide +kernel)⟩
theorem lw_p5 : lw_okq (⟨"SideVersions$Plan", "takesKey", "(LSideVersions$Text;I)Z"⟩, 6) := ⟨⟨by decide +kernel, by decide +kernel⟩, List.mem_of_getElem? (i := 55) (by decide +kernel), List.mem_of_getElem? (i := 414) (by decide +kernel), List.mem_of_getElem? (i := 415) (by decide +kernel)⟩
theorem lw_p6 : lw_okq (⟨"SideVersions$Plan", "takesSemicolon", "(LSideVersions$Text;)Z"⟩, 6) := ⟨⟨by decide +kernel, by decide +kernel⟩, List.mem_of_getElem? (i := 55) (by decide +kernel), List.mem_of_getElem? (i := 418) (by decide +kernel), List.mem_of_getElem? (i := 419) (by decide +kernel)⟩
theorem lw_p7 : lw_okq (⟨"SideVersions$Plan", "takenNumber", "(LSideVersions$Text;II)I"⟩, 6) := ⟨⟨by decide +kernel, by decide +kernel⟩, List.mem_of_getElem? (i := 55) (by decide +kernel), List.mem_of_getElem? (i := 424) (by decide +kernel), List.mem_of_getElem? (i := 425) (by decide +kernel)⟩
theorem lw_p8 : lw_okq (⟨"SideVersions", "beginAnew", "()V"⟩, 12) := ⟨⟨by decide +kernel, by decide +kernel⟩, List.mem_of_getElem? (i := 21) (by decide +kernel), List.mem_of_getElem? (i := 434) (by decide +kernel), List.mem_of_getElem? (i := 435) (by decide +kernel)⟩
theorem lw_p9 : lw_okq (⟨"SideVersions", "clientAt", "(I)LSideVersions$Client;"⟩, 12) := ⟨⟨by decide +kernel, by decide +kernel⟩, List.mem_of_getElem? (i := 21) (by decide +kernel), List.mem_of_getElem? (i := 472) (by decide +kernel), List.mem_of_getElem? (i := 473) (by decide +kernel)⟩
theorem lw_p10 : lw_okq (⟨"SideVersions", "replicaAt", "(II)LSideVersions$Replica;"⟩, 12) := ⟨⟨by decide +kernel, by decide +kernel⟩, List.mem_of_getElem? (i := 21) (by decide +kernel), List.mem_of_getElem? (i := 476) (by decide +kernel), List.mem_of_getElem? (i := 477) (by decide +kernel)⟩
theorem lw_p11 : lw_okq (⟨"SideVersions", "keyAt", "(I)LSideVersions$Key;"⟩, 12) := ⟨⟨by decide +kernel, by decide +kernel⟩, List.mem_of_getElem? (i := 21) (by decide +kernel), List.mem_of_getElem? (i := 480) (by decide +kernel), List.mem_of_getElem? (i := 481) (by decide +kernel)⟩
theorem lw_p12 : lw_okq (⟨"SideVersions", "isSite", "(I)Z"⟩, 12) := ⟨⟨by decide +kernel, by decide +kernel⟩, List.mem_of_getElem? (i := 21) (by decide +kernel), List.mem_of_getElem? (i := 484) (by decide +kernel), List.mem_of_getElem? (i := 485) (by decide +kernel)⟩
theorem lw_p13 : lw_okq (⟨"SideVersions$Journal", "oldestSite", "(I)I"⟩, 11) := ⟨⟨by decide +kernel, by decide +kernel⟩, List.mem_of_getElem? (i := 147) (by decide +kernel), List.mem_of_getElem? (i := 502) (by decide +kernel), List.mem_of_getElem? (i := 503) (by decide +kernel)⟩
theorem lw_p14 : lw_okq (⟨"SideVersions$MergeRules", "placeOf", "(I)I"⟩, 3) := ⟨⟨by decide +kernel, by decide +kernel⟩, List.mem_of_getElem? (i := 89) (by decide +kernel), List.mem_of_getElem? (i := 643) (by decide +kernel), List.mem_of_getElem? (i := 644) (by decide +kernel)⟩
theorem lw_p15 : lw_okq (⟨"SideVersions$MergeRules", "isPlace", "(I)Z"⟩, 3) := ⟨⟨by decide +kernel, by decide +kernel⟩, List.mem_of_getElem? (i := 89) (by decide +kernel), List.mem_of_getElem? (i := 651) (by decide +kernel), List.mem_of_getElem? (i := 652) (by decide +kernel)⟩
def lw_privs_1 : List (MethodName × Nat) := [(⟨"SideVersions$Plan", "forget", "()V"⟩, 6), (⟨"SideVersions$Text", "sortAt", "(I)I"⟩, 5), (⟨"SideVersions$Text", "byteAt", "(I)I"⟩, 5), (⟨"SideVersions$Plan", "putUsual", "()V"⟩, 6), (⟨"SideVersions$Plan", "takesItem", "(LSideVersions$Text;)Z"⟩, 6), (⟨"SideVersions$Plan", "takesKey", "(LSideVersions$Text;I)Z"⟩, 6), (⟨"SideVersions$Plan", "takesSemicolon", "(LSideVersions$Text;)Z"⟩, 6), (⟨"SideVersions$Plan", "takenNumber", "(LSideVersions$Text;II)I"⟩, 6), (⟨"SideVersions", "beginAnew", "()V"⟩, 12), (⟨"SideVersions", "clientAt", "(I)LSideVersions$Client;"⟩, 12), (⟨"SideVersions", "replicaAt", "(II)LSideVersions$Replica;"⟩, 12), (⟨"SideVersions", "keyAt", "(I)LSideVersions$Key;"⟩, 12), (⟨"SideVersions", "isSite", "(I)Z"⟩, 12), (⟨"SideVersions$Journal", "oldestSite", "(I)I"⟩, 11), (⟨"SideVersions$MergeRules", "placeOf", "(I)I"⟩, 3), (⟨"SideVersions$MergeRules", "isPlace", "(I)Z"⟩, 3)]
theorem lw_r1 : ∀ q ∈ lw_privs_1, lw_okq q := List.forall_mem_cons.mpr ⟨lw_p0, List.forall_mem_cons.mpr ⟨lw_p1, List.forall_mem_cons.mpr ⟨lw_p2, List.forall_mem_cons.mpr ⟨lw_p3, List.forall_mem_cons.mpr ⟨lw_p4, List.forall_mem_cons.mpr ⟨lw_p5, List.forall_mem_cons.mpr ⟨lw_p6, List.forall_mem_cons.mpr ⟨lw_p7, List.forall_mem_cons.mpr ⟨lw_p8, List.forall_mem_cons.mpr ⟨lw_p9, List.forall_mem_cons.mpr ⟨lw_p10, List.forall_mem_cons.mpr ⟨lw_p11, List.forall_mem_cons.mpr ⟨lw_p12, List.forall_mem_cons.mpr ⟨lw_p13, List.forall_mem_cons.mpr ⟨lw_p14, List.forall_mem_cons.mpr ⟨lw_p15, fun _ h => absurd h List.not_mem_nil⟩⟩⟩⟩⟩⟩⟩⟩⟩⟩⟩⟩⟩⟩⟩⟩
theorem lw_p16 : lw_okq (⟨"SideVersions$Merger", "putTogether", "(J)V"⟩, 4) := ⟨⟨by decide +kernel, by decide +kernel⟩, List.mem_of_getElem? (i := 105) (by decide +kernel), List.mem_of_getElem? (i := 681) (by decide +kernel), List.mem_of_getElem? (i := 682) (by decide +kernel)⟩
theorem lw_p17 : lw_okq (⟨"SideVersions$Merger", "keepCommon", "(J)V"⟩, 4) := ⟨⟨by decide +kernel, by decide +kernel⟩, List.mem_of_getElem? (i := 105) (by decide +kernel), List.mem_of_getElem? (i := 685) (by decide +kernel), List.mem_of_getElem? (i := 686) (by decide +kernel)⟩
theorem lw_p18 : lw_okq (⟨"SideVersions", "dotAt", "(III)I"⟩, 12) := ⟨⟨by decide +kernel, by decide +kernel⟩, List.mem_of_getElem? (i := 21) (by decide +kernel), List.mem_of_getElem? (i := 738) (by decide +kernel), List.mem_of_getElem? (i := 739) (by decide +kernel)⟩
theorem lw_p19 : lw_okq (⟨"SideVersions$Gossip", "lackingSites", "(I)I"⟩, 3) := ⟨⟨by decide +kernel, by decide +kernel⟩, List.mem_of_getElem? (i := 126) (by decide +kernel), List.mem_of_getElem? (i := 828) (by decide +kernel), List.mem_of_getElem? (i := 829) (by decide +kernel)⟩
theorem lw_p20 : lw_okq (⟨"SideVersions$Gossip", "afterSending", "(III)I"⟩, 3) := ⟨⟨by decide +kernel, by decide +kernel⟩, List.mem_of_getElem? (i := 126) (by decide +kernel), List.mem_of_getElem? (i := 835) (by decide +kernel), List.mem_of_getElem? (i := 836) (by decide +kernel)⟩
theorem lw_p21 : lw_okq (⟨"SideVersionsModel", "begins", "()V"⟩, 41) := ⟨⟨by decide +kernel, by decide +kernel⟩, List.mem_of_getElem? (i := 866) (by decide +kernel), List.mem_of_getElem? (i := 873) (by decide +kernel), List.mem_of_getElem? (i := 874) (by decide +kernel)⟩
theorem lw_p22 : lw_okq (⟨"SideVersionsModel", "forgets", "()V"⟩, 41) := ⟨⟨by decide +kernel, by decide +kernel⟩, List.mem_of_getElem? (i := 866) (by decide +kernel), List.mem_of_getElem? (i := 877) (by decide +kernel), List.mem_of_getElem? (i := 878) (by decide +kernel)⟩
theorem lw_p23 : lw_okq (⟨"SideVersionsModel", "isBetween", "(II)Z"⟩, 41) := ⟨⟨by decide +kernel, by decide +kernel⟩, List.mem_of_getElem? (i := 866) (by decide +kernel), List.mem_of_getElem? (i := 1022) (by decide +kernel), List.mem_of_getElem? (i := 1023) (by decide +kernel)⟩
theorem lw_p24 : lw_okq (⟨"SideVersionsModel", "readsItem", "()Z"⟩, 41) := ⟨⟨by decide +kernel, by decide +kernel⟩, List.mem_of_getElem? (i := 866) (by decide +kernel), List.mem_of_getElem? (i := 1026) (by decide +kernel), List.mem_of_getElem? (i := 1027) (by decide +kernel)⟩
theorem lw_p25 : lw_okq (⟨"SideVersionsModel", "next", "()V"⟩, 41) := ⟨⟨by decide +kernel, by decide +kernel⟩, List.mem_of_getElem? (i := 866) (by decide +kernel), List.mem_of_getElem? (i := 1030) (by decide +kernel), List.mem_of_getElem? (i := 1031) (by decide +kernel)⟩
theorem lw_p26 : lw_okq (⟨"SideVersionsModel", "number", "(II)Z"⟩, 41) := ⟨⟨by decide +kernel, by decide +kernel⟩, List.mem_of_getElem? (i := 866) (by decide +kernel), List.mem_of_getElem? (i := 1040) (by decide +kernel), List.mem_of_getElem? (i := 1041) (by decide +kernel)⟩
theorem lw_p27 : lw_okq (⟨"SideVersionsModel", "stops", "()Z"⟩, 41) := ⟨⟨by decide +kernel, by decide +kernel⟩, List.mem_of_getElem? (i := 866) (by decide +kernel), List.mem_of_getElem? (i := 1044) (by decide +kernel), List.mem_of_getElem? (i := 1045) (by decide +kernel)⟩
theorem lw_p28 : lw_okq (⟨"SideVersionsModel", "isSite", "(I)Z"⟩, 41) := ⟨⟨by decide +kernel, by decide +kernel⟩, List.mem_of_getElem? (i := 866) (by decide +kernel), List.mem_of_getElem? (i := 1056) (by decide +kernel), List.mem_of_getElem? (i := 1057) (by decide +kernel)⟩
theorem lw_p29 : lw_okq (⟨"SideVersionsModel", "isKey", "(I)Z"⟩, 41) := ⟨⟨by decide +kernel, by decide +kernel⟩, List.mem_of_getElem? (i := 866) (by decide +kernel), List.mem_of_getElem? (i := 1060) (by decide +kernel), List.mem_of_getElem? (i := 1061) (by decide +kernel)⟩
theorem lw_p30 : lw_okq (⟨"SideVersionsModel", "siblings", "(II)I"⟩, 41) := ⟨⟨by decide +kernel, by decide +kernel⟩, List.mem_of_getElem? (i := 866) (by decide +kernel), List.mem_of_getElem? (i := 1073) (by decide +kernel), List.mem_of_getElem? (i := 1074) (by decide +kernel)⟩
theorem lw_p31 : lw_okq (⟨"SideVersionsModel", "comes", "(IIJ)I"⟩, 41) := ⟨⟨by decide +kernel, by decide +kernel⟩, List.mem_of_getElem? (i := 866) (by decide +kernel), List.mem_of_getElem? (i := 1081) (by decide +kernel), List.mem_of_getElem? (i := 1082) (by decide +kernel)⟩
def lw_privs_2 : List (MethodName × Nat) := [(⟨"SideVersions$Merger", "putTogether", "(J)V"⟩, 4), (⟨"SideVersions$Merger", "keepCommon", "(J)V"⟩, 4), (⟨"SideVersions", "dotAt", "(III)I"⟩, 12), (⟨"SideVersions$Gossip", "lackingSites", "(I)I"⟩, 3), (⟨"SideVersions$Gossip", "afterSending", "(III)I"⟩, 3), (⟨"SideVersionsModel", "begins", "()V"⟩, 41), (⟨"SideVersionsModel", "forgets", "()V"⟩, 41), (⟨"SideVersionsModel", "isBetween", "(II)Z"⟩, 41), (⟨"SideVersionsModel", "readsItem", "()Z"⟩, 41), (⟨"SideVersionsModel", "next", "()V"⟩, 41), (⟨"SideVersionsModel", "number", "(II)Z"⟩, 41), (⟨"SideVersionsModel", "stops", "()Z"⟩, 41), (⟨"SideVersionsModel", "isSite", "(I)Z"⟩, 41), (⟨"SideVersionsModel", "isKey", "(I)Z"⟩, 41), (⟨"SideVersionsModel", "siblings", "(II)I"⟩, 41), (⟨"SideVersionsModel", "comes", "(IIJ)I"⟩, 41)]
theorem lw_r2 : ∀ q ∈ lw_privs_2, lw_okq q := List.forall_mem_cons.mpr ⟨lw_p16, List.forall_mem_cons.mpr ⟨lw_p17, List.forall_mem_cons.mpr ⟨lw_p18, List.forall_mem_cons.mpr ⟨lw_p19, List.forall_mem_cons.mpr ⟨lw_p20, List.forall_mem_cons.mpr ⟨lw_p21, List.forall_mem_cons.mpr ⟨lw_p22, List.forall_mem_cons.mpr ⟨lw_p23, List.forall_mem_cons.mpr ⟨lw_p24, List.forall_mem_cons.mpr ⟨lw_p25, List.forall_mem_cons.mpr ⟨lw_p26, List.forall_mem_cons.mpr ⟨lw_p27, List.forall_mem_cons.mpr ⟨lw_p28, List.forall_mem_cons.mpr ⟨lw_p29, List.forall_mem_cons.mpr ⟨lw_p30, List.forall_mem_cons.mpr ⟨lw_p31, fun _ h => absurd h List.not_mem_nil⟩⟩⟩⟩⟩⟩⟩⟩⟩⟩⟩⟩⟩⟩⟩⟩
theorem lw_p32 : lw_okq (⟨"SideVersionsModel", "bounds", "(II)V"⟩, 41) := ⟨⟨by decide +kernel, by decide +kernel⟩, List.mem_of_getElem? (i := 866) (by decide +kernel), List.mem_of_getElem? (i := 1085) (by decide +kernel), List.mem_of_getElem? (i := 1086) (by decide +kernel)⟩
theorem lw_p33 : lw_okq (⟨"SideVersionsModel", "eldest", "(II)I"⟩, 41) := ⟨⟨by decide +kernel, by decide +kernel⟩, List.mem_of_getElem? (i := 866) (by decide +kernel), List.mem_of_getElem? (i := 1089) (by decide +kernel), List.mem_of_getElem? (i := 1090) (by decide +kernel)⟩
theorem lw_p34 : lw_okq (⟨"SideVersionsModel", "ruleOf", "(I)I"⟩, 41) := ⟨⟨by decide +kernel, by decide +kernel⟩, List.mem_of_getElem? (i := 866) (by decide +kernel), List.mem_of_getElem? (i := 1105) (by decide +kernel), List.mem_of_getElem? (i := 1106) (by decide +kernel)⟩
theorem lw_p35 : lw_okq (⟨"SideVersionsModel", "joinedAll", "(III)J"⟩, 41) := ⟨⟨by decide +kernel, by decide +kernel⟩, List.mem_of_getElem? (i := 866) (by decide +kernel), List.mem_of_getElem? (i := 1109) (by decide +kernel), List.mem_of_getElem? (i := 1110) (by decide +kernel)⟩
theorem lw_p36 : lw_okq (⟨"SideVersionsModel", "joined", "(IIJJ)J"⟩, 41) := ⟨⟨by decide +kernel, by decide +kernel⟩, List.mem_of_getElem? (i := 866) (by decide +kernel), List.mem_of_getElem? (i := 1113) (by decide +kernel), List.mem_of_getElem? (i := 1114) (by decide +kernel)⟩
theorem lw_p37 : lw_okq (⟨"SideVersionsModel", "sum", "(JJ)J"⟩, 41) := ⟨⟨by decide +kernel, by decide +kernel⟩, List.mem_of_getElem? (i := 866) (by decide +kernel), List.mem_of_getElem? (i := 1117) (by decide +kernel), List.mem_of_getElem? (i := 1118) (by decide +kernel)⟩
theorem lw_p38 : lw_okq (⟨"SideVersionsModel", "isWrite", "(III)Z"⟩, 41) := ⟨⟨by decide +kernel, by decide +kernel⟩, List.mem_of_getElem? (i := 866) (by decide +kernel), List.mem_of_getElem? (i := 1148) (by decide +kernel), List.mem_of_getElem? (i := 1149) (by decide +kernel)⟩
theorem lw_p39 : lw_okq (⟨"SideVersionsModel", "isLost", "(I)Z"⟩, 41) := ⟨⟨by decide +kernel, by decide +kernel⟩, List.mem_of_getElem? (i := 866) (by decide +kernel), List.mem_of_getElem? (i := 1155) (by decide +kernel), List.mem_of_getElem? (i := 1156) (by decide +kernel)⟩
theorem lw_p40 : lw_okq (⟨"SideVersionsModel", "areAlike", "(III)Z"⟩, 41) := ⟨⟨by decide +kernel, by decide +kernel⟩, List.mem_of_getElem? (i := 866) (by decide +kernel), List.mem_of_getElem? (i := 1167) (by decide +kernel), List.mem_of_getElem? (i := 1168) (by decide +kernel)⟩
theorem lw_p41 : lw_okq (⟨"SideVersionsModel", "laysSets", "(I)V"⟩, 41) := ⟨⟨by decide +kernel, by decide +kernel⟩, List.mem_of_getElem? (i := 866) (by decide +kernel), List.mem_of_getElem? (i := 1179) (by decide +kernel), List.mem_of_getElem? (i := 1180) (by decide +kernel)⟩
theorem lw_p42 : lw_okq (⟨"SideVersionsModel", "joinsSet", "(III)V"⟩, 41) := ⟨⟨by decide +kernel, by decide +kernel⟩, List.mem_of_getElem? (i := 866) (by decide +kernel), List.mem_of_getElem? (i := 1183) (by decide +kernel), List.mem_of_getElem? (i := 1184) (by decide +kernel)⟩
theorem lw_p43 : lw_okq (⟨"SideVersionsModel", "areLike", "(II)Z"⟩, 41) := ⟨⟨by decide +kernel, by decide +kernel⟩, List.mem_of_getElem? (i := 866) (by decide +kernel), List.mem_of_getElem? (i := 1187) (by decide +kernel), List.mem_of_getElem? (i := 1188) (by decide +kernel)⟩
theorem lw_p44 : lw_okq (⟨"SideVersionsModel", "fewest", "(I)I"⟩, 41) := ⟨⟨by decide +kernel, by decide +kernel⟩, List.mem_of_getElem? (i := 866) (by decide +kernel), List.mem_of_getElem? (i := 1191) (by decide +kernel), List.mem_of_getElem? (i := 1192) (by decide +kernel)⟩
theorem lw_p45 : lw_okq (⟨"SideVersionsModel", "isAll", "(I)Z"⟩, 41) := ⟨⟨by decide +kernel, by decide +kernel⟩, List.mem_of_getElem? (i := 866) (by decide +kernel), List.mem_of_getElem? (i := 1195) (by decide +kernel), List.mem_of_getElem? (i := 1196) (by decide +kernel)⟩
theorem lw_p46 : lw_okq (⟨"SideVersionsModel", "counted", "(II)I"⟩, 41) := ⟨⟨by decide +kernel, by decide +kernel⟩, List.mem_of_getElem? (i := 866) (by decide +kernel), List.mem_of_getElem? (i := 1214) (by decide +kernel), List.mem_of_getElem? (i := 1215) (by decide +kernel)⟩
def lw_privs_3 : List (MethodName × Nat) := [(⟨"SideVersionsModel", "bounds", "(II)V"⟩, 41), (⟨"SideVersionsModel", "eldest", "(II)I"⟩, 41), (⟨"SideVersionsModel", "ruleOf", "(I)I"⟩, 41), (⟨"SideVersionsModel", "joinedAll", "(III)J"⟩, 41), (⟨"SideVersionsModel", "joined", "(IIJJ)J"⟩, 41), (⟨"SideVersionsModel", "sum", "(JJ)J"⟩, 41), (⟨"SideVersionsModel", "isWrite", "(III)Z"⟩, 41), (⟨"SideVersionsModel", "isLost", "(I)Z"⟩, 41), (⟨"SideVersionsModel", "areAlike", "(III)Z"⟩, 41), (⟨"SideVersionsModel", "laysSets", "(I)V"⟩, 41), (⟨"SideVersionsModel", "joinsSet", "(III)V"⟩, 41), (⟨"SideVersionsModel", "areLike", "(II)Z"⟩, 41), (⟨"SideVersionsModel", "fewest", "(I)I"⟩, 41), (⟨"SideVersionsModel", "isAll", "(I)Z"⟩, 41), (⟨"SideVersionsModel", "counted", "(II)I"⟩, 41)]
theorem lw_r3 : ∀ q ∈ lw_privs_3, lw_okq q := List.forall_mem_cons.mpr ⟨lw_p32, List.forall_mem_cons.mpr ⟨lw_p33, List.forall_mem_cons.mpr ⟨lw_p34, List.forall_mem_cons.mpr ⟨lw_p35, List.forall_mem_cons.mpr ⟨lw_p36, List.forall_mem_cons.mpr ⟨lw_p37, List.forall_mem_cons.mpr ⟨lw_p38, List.forall_mem_cons.mpr ⟨lw_p39, List.forall_mem_cons.mpr ⟨lw_p40, List.forall_mem_cons.mpr ⟨lw_p41, List.forall_mem_cons.mpr ⟨lw_p42, List.forall_mem_cons.mpr ⟨lw_p43, List.forall_mem_cons.mpr ⟨lw_p44, List.forall_mem_cons.mpr ⟨lw_p45, List.forall_mem_cons.mpr ⟨lw_p46, fun _ h => absurd h List.not_mem_nil⟩⟩⟩⟩⟩⟩⟩⟩⟩⟩⟩⟩⟩⟩⟩
def lw_privs : List (MethodName × Nat) := lw_privs_1 ++ (lw_privs_2 ++ (lw_privs_3))
def lw_tbl : List Cond := k2_sels lw_privs ++ tables_1
theorem lw_privs_ok : ∀ q ∈ lw_privs, lw_okq q := by
  show ∀ q ∈ lw_privs_1 ++ (lw_privs_2 ++ (lw_privs_3)), lw_okq q
  exact List.forall_mem_append.mpr ⟨lw_r1, List.forall_mem_append.mpr ⟨lw_r2, lw_r3⟩⟩

def RX0 : String := "SideVersions$Client"
def TX0 : u_T := fun k => match k with
  | 0 => ("SideVersions$Client", "key", "I", false)
  | 1 => ("SideVersions$Client", "known", "I", false)
  | _ => ("SideVersions$Client", "told", "I", false)
def tyX0 : Nat → FieldType := fun k => match k with
  | 0 => .int
  | 1 => .int
  | _ => .int
abbrev wsX00 : List Cond := u_ws RX0 TX0 3
theorem nmX0 : ∀ a, a < 3 → ∀ b, b < 3 → a ≠ b → (TX0 a).2.1 ≠ (TX0 b).2.1 := by decide +kernel
theorem tyX0_ok : ∀ k, k < 3 → parseFieldDescriptor (TX0 k).2.2.1 = some (tyX0 k) := by decide +kernel
abbrev cX0_init : ByteArray := prog_2_method_1_code
def yX0_init : MethodName := ⟨RX0, "<init>", "()V"⟩
abbrev cX0_isBlind : ByteArray := prog_2_method_2_code
def yX0_isBlind : MethodName := ⟨RX0, "isBlind", "()Z"⟩
abbrev cX0_becomeBlind : ByteArray := prog_2_method_3_code
def yX0_becomeBlind : MethodName := ⟨RX0, "becomeBlind", "()V"⟩
def RX1 : String := "SideVersions$Dots"
def TX1 : u_T := fun k => match k with
  | _ => ("SideVersions$Dots", "bits", "[J", true)
def tyX1 : Nat → FieldType := fun k => match k with
  | _ => .array .long
abbrev wsX10 : List Cond := u_ws RX1 TX1 1
theorem nmX1 : ∀ a, a < 1 → ∀ b, b < 1 → a ≠ b → (TX1 a).2.1 ≠ (TX1 b).2.1 := by decide +kernel
theorem tyX1_ok : ∀ k, k < 1 → parseFieldDescriptor (TX1 k).2.2.1 = some (tyX1 k) := by decide +kernel
abbrev cX1_init : ByteArray := prog_3_method_1_code
def yX1_init : MethodName := ⟨RX1, "<init>", "()V"⟩
abbrev cX1_of : ByteArray := prog_3_method_2_code
def yX1_of : MethodName := ⟨RX1, "of", "(II)I"⟩
abbrev cX1_siteOf : ByteArray := prog_3_method_3_code
def yX1_siteOf : MethodName := ⟨RX1, "siteOf", "(I)I"⟩
abbrev cX1_numberOf : ByteArray := prog_3_method_4_code
def yX1_numberOf : MethodName := ⟨RX1, "numberOf", "(I)I"⟩
abbrev cX1_isDot : ByteArray := prog_3_method_5_code
def yX1_isDot : MethodName := ⟨RX1, "isDot", "(I)Z"⟩
abbrev cX1_covered : ByteArray := prog_3_method_6_code
def yX1_covered : MethodName := ⟨RX1, "covered", "(II)J"⟩
abbrev cX1_has : ByteArray := prog_3_method_7_code
def yX1_has : MethodName := ⟨RX1, "has", "(I)Z"⟩
abbrev cX1_add : ByteArray := prog_3_method_8_code
def yX1_add : MethodName := ⟨RX1, "add", "(I)V"⟩
abbrev cX1_remove : ByteArray := prog_3_method_9_code
def yX1_remove : MethodName := ⟨RX1, "remove", "(I)V"⟩
abbrev cX1_empty : ByteArray := prog_3_method_10_code
def yX1_empty : MethodName := ⟨RX1, "empty", "()V"⟩
abbrev cX1_size : ByteArray := prog_3_method_11_code
def yX1_size : MethodName := ⟨RX1, "size", "()I"⟩
abbrev cX1_at : ByteArray := prog_3_method_12_code
def yX1_at : MethodName := ⟨RX1, "at", "(I)I"⟩
abbrev cX1_isSame : ByteArray := prog_3_method_13_code
def yX1_isSame : MethodName := ⟨RX1, "isSame", "(LSideVersions$Dots;)Z"⟩
abbrev cX1_addAll : ByteArray := prog_3_method_14_code
def yX1_addAll : MethodName := ⟨RX1, "addAll", "(LSideVersions$Dots;)V"⟩
abbrev cX1_addCovered : ByteArray := prog_3_method_15_code
def yX1_addCovered : MethodName := ⟨RX1, "addCovered", "(LSideVersions$Dots;I)V"⟩
abbrev cX1_removeCovered : ByteArray := prog_3_method_16_code
def yX1_removeCovered : MethodName := ⟨RX1, "removeCovered", "(I)V"⟩
abbrev cX1_coveredTotal : ByteArray := prog_3_method_17_code
def yX1_coveredTotal : MethodName := ⟨RX1, "coveredTotal", "(I)I"⟩
abbrev cX1_join : ByteArray := prog_3_method_18_code
def yX1_join : MethodName := ⟨RX1, "join", "(ILSideVersions$Dots;I)V"⟩
abbrev cX1_gone : ByteArray := prog_3_method_19_code
def yX1_gone : MethodName := ⟨RX1, "gone", "(II)J"⟩
abbrev cX1_bitOf : ByteArray := prog_3_method_20_code
def yX1_bitOf : MethodName := ⟨RX1, "bitOf", "(I)J"⟩
def RX2 : String := "SideVersions$Gossip"
def TX2 : u_T := fun k => match k with
  | 0 => ("SideVersions$Gossip", "closed", "[I", true)
  | 1 => ("SideVersions$Gossip", "sites", "I", false)
  | _ => ("SideVersions$Gossip", "begin", "I", false)
def tyX2 : Nat → FieldType := fun k => match k with
  | 0 => .array .int
  | 1 => .int
  | _ => .int
abbrev wsX20 : List Cond := u_ws RX2 TX2 3
theorem nmX2 : ∀ a, a < 3 → ∀ b, b < 3 → a ≠ b → (TX2 a).2.1 ≠ (TX2 b).2.1 := by decide +kernel
theorem tyX2_ok : ∀ k, k < 3 → parseFieldDescriptor (TX2 k).2.2.1 = some (tyX2 k) := by decide +kernel
abbrev cX2_init : ByteArray := prog_4_method_1_code
def yX2_init : MethodName := ⟨RX2, "<init>", "()V"⟩
abbrev cX2_lookAt : ByteArray := prog_4_method_2_code
def yX2_lookAt : MethodName := ⟨RX2, "lookAt", "(LSideVersions$Key;I)V"⟩
abbrev cX2_fewest : ByteArray := prog_4_method_3_code
def yX2_fewest : MethodName := ⟨RX2, "fewest", "()I"⟩
abbrev cX2_firstOfFewest : ByteArray := prog_4_method_4_code
def yX2_firstOfFewest : MethodName := ⟨RX2, "firstOfFewest", "()I"⟩
abbrev cX2_isEnough : ByteArray := prog_4_method_5_code
def yX2_isEnough : MethodName := ⟨RX2, "isEnough", "(LSideVersions$Gossip;II)Z"⟩
abbrev cX2_lackingSites : ByteArray := prog_4_method_6_code
def yX2_lackingSites : MethodName := ⟨RX2, "lackingSites", "(I)I"⟩
abbrev cX2_afterSending : ByteArray := prog_4_method_7_code
def yX2_afterSending : MethodName := ⟨RX2, "afterSending", "(III)I"⟩
abbrev cX2_setOf : ByteArray := prog_4_method_8_code
def yX2_setOf : MethodName := ⟨RX2, "setOf", "(II)I"⟩
def RX3 : String := "SideVersions$Journal"
def TX3 : u_T := fun k => match k with
  | 0 => ("SideVersions$Journal", "values", "[J", true)
  | 1 => ("SideVersions$Journal", "stamps", "[I", true)
  | 2 => ("SideVersions$Journal", "told", "[I", true)
  | 3 => ("SideVersions$Journal", "known", "[I", true)
  | 4 => ("SideVersions$Journal", "seen", "LSideVersions$Dots;", true)
  | 5 => ("SideVersions$Journal", "dropped", "LSideVersions$Dots;", true)
  | 6 => ("SideVersions$Journal", "replaced", "LSideVersions$Dots;", true)
  | 7 => ("SideVersions$Journal", "merged", "LSideVersions$Dots;", true)
  | 8 => ("SideVersions$Journal", "kind", "I", false)
  | 9 => ("SideVersions$Journal", "made", "I", false)
  | _ => ("SideVersions$Journal", "falseSiblings", "I", false)
def tyX3 : Nat → FieldType := fun k => match k with
  | 0 => .array .long
  | 1 => .array .int
  | 2 => .array .int
  | 3 => .array .int
  | 4 => .object "SideVersions$Dots"
  | 5 => .object "SideVersions$Dots"
  | 6 => .object "SideVersions$Dots"
  | 7 => .object "SideVersions$Dots"
  | 8 => .int
  | 9 => .int
  | _ => .int
abbrev wsX30 : List Cond := u_ws RX3 TX3 11
theorem nmX3 : ∀ a, a < 11 → ∀ b, b < 11 → a ≠ b → (TX3 a).2.1 ≠ (TX3 b).2.1 := by decide +kernel
theorem tyX3_ok : ∀ k, k < 11 → parseFieldDescriptor (TX3 k).2.2.1 = some (tyX3 k) := by decide +kernel
abbrev cX3_init : ByteArray := prog_5_method_1_code
def yX3_init : MethodName := ⟨RX3, "<init>", "()V"⟩
abbrev cX3_beginAnew : ByteArray := prog_5_method_2_code
def yX3_beginAnew : MethodName := ⟨RX3, "beginAnew", "(I)V"⟩
abbrev cX3_has : ByteArray := prog_5_method_3_code
def yX3_has : MethodName := ⟨RX3, "has", "(I)Z"⟩
abbrev cX3_note : ByteArray := prog_5_method_4_code
def yX3_note : MethodName := ⟨RX3, "note", "(IJIII)V"⟩
abbrev cX3_valueOf : ByteArray := prog_5_method_5_code
def yX3_valueOf : MethodName := ⟨RX3, "valueOf", "(I)J"⟩
abbrev cX3_stampOf : ByteArray := prog_5_method_6_code
def yX3_stampOf : MethodName := ⟨RX3, "stampOf", "(I)I"⟩
abbrev cX3_toldOf : ByteArray := prog_5_method_7_code
def yX3_toldOf : MethodName := ⟨RX3, "toldOf", "(I)I"⟩
abbrev cX3_knownOf : ByteArray := prog_5_method_8_code
def yX3_knownOf : MethodName := ⟨RX3, "knownOf", "(I)I"⟩
abbrev cX3_nextByStamp : ByteArray := prog_5_method_9_code
def yX3_nextByStamp : MethodName := ⟨RX3, "nextByStamp", "(LSideVersions$Dots;I)I"⟩
abbrev cX3_pruned : ByteArray := prog_5_method_10_code
def yX3_pruned : MethodName := ⟨RX3, "pruned", "(II)I"⟩
abbrev cX3_oldestSite : ByteArray := prog_5_method_11_code
def yX3_oldestSite : MethodName := ⟨RX3, "oldestSite", "(I)I"⟩
def RX4 : String := "SideVersions$Key"
def TX4 : u_T := fun k => match k with
  | 0 => ("SideVersions$Key", "journal", "LSideVersions$Journal;", true)
  | _ => ("SideVersions$Key", "replicas", "[LSideVersions$Replica;", true)
def tyX4 : Nat → FieldType := fun k => match k with
  | 0 => .object "SideVersions$Journal"
  | _ => .array (.object "SideVersions$Replica")
abbrev wsX40 : List Cond := u_ws RX4 TX4 2
theorem nmX4 : ∀ a, a < 2 → ∀ b, b < 2 → a ≠ b → (TX4 a).2.1 ≠ (TX4 b).2.1 := by decide +kernel
theorem tyX4_ok : ∀ k, k < 2 → parseFieldDescriptor (TX4 k).2.2.1 = some (tyX4 k) := by decide +kernel
abbrev cX4_init : ByteArray := prog_6_method_1_code
def yX4_init : MethodName := ⟨RX4, "<init>", "()V"⟩
abbrev cX4_beginAnew : ByteArray := prog_6_method_2_code
def yX4_beginAnew : MethodName := ⟨RX4, "beginAnew", "(I)V"⟩
abbrev cX4_replicaOf : ByteArray := prog_6_method_3_code
def yX4_replicaOf : MethodName := ⟨RX4, "replicaOf", "(I)LSideVersions$Replica;"⟩
abbrev cX4_greatestRow : ByteArray := prog_6_method_4_code
def yX4_greatestRow : MethodName := ⟨RX4, "greatestRow", "()I"⟩
abbrev cX4_holders : ByteArray := prog_6_method_5_code
def yX4_holders : MethodName := ⟨RX4, "holders", "(I)I"⟩
abbrev cX4_isLost : ByteArray := prog_6_method_6_code
def yX4_isLost : MethodName := ⟨RX4, "isLost", "(I)Z"⟩
abbrev cX4_lostTotal : ByteArray := prog_6_method_7_code
def yX4_lostTotal : MethodName := ⟨RX4, "lostTotal", "()I"⟩
abbrev cX4_isWithin : ByteArray := prog_6_method_8_code
def yX4_isWithin : MethodName := ⟨RX4, "isWithin", "(II)Z"⟩
def RX5 : String := "SideVersions$MergeRules"
def TX5 : u_T := fun k => match k with
  | 0 => ("SideVersions$MergeRules", "owners", "[I", true)
  | 1 => ("SideVersions$MergeRules", "given", "[I", true)
  | _ => ("SideVersions$MergeRules", "size", "I", false)
def tyX5 : Nat → FieldType := fun k => match k with
  | 0 => .array .int
  | 1 => .array .int
  | _ => .int
abbrev wsX50 : List Cond := u_ws RX5 TX5 3
theorem nmX5 : ∀ a, a < 3 → ∀ b, b < 3 → a ≠ b → (TX5 a).2.1 ≠ (TX5 b).2.1 := by decide +kernel
theorem tyX5_ok : ∀ k, k < 3 → parseFieldDescriptor (TX5 k).2.2.1 = some (tyX5 k) := by decide +kernel
abbrev cX5_init : ByteArray := prog_7_method_1_code
def yX5_init : MethodName := ⟨RX5, "<init>", "()V"⟩
abbrev cX5_forget : ByteArray := prog_7_method_2_code
def yX5_forget : MethodName := ⟨RX5, "forget", "()V"⟩
abbrev cX5_give : ByteArray := prog_7_method_3_code
def yX5_give : MethodName := ⟨RX5, "give", "(II)I"⟩
abbrev cX5_ruleOf : ByteArray := prog_7_method_4_code
def yX5_ruleOf : MethodName := ⟨RX5, "ruleOf", "(I)I"⟩
abbrev cX5_keyAtPlace : ByteArray := prog_7_method_5_code
def yX5_keyAtPlace : MethodName := ⟨RX5, "keyAtPlace", "(I)I"⟩
abbrev cX5_ruleAtPlace : ByteArray := prog_7_method_6_code
def yX5_ruleAtPlace : MethodName := ⟨RX5, "ruleAtPlace", "(I)I"⟩
abbrev cX5_isPlace : ByteArray := prog_7_method_7_code
def yX5_isPlace : MethodName := ⟨RX5, "isPlace", "(I)Z"⟩
abbrev cX5_placeOf : ByteArray := prog_7_method_8_code
def yX5_placeOf : MethodName := ⟨RX5, "placeOf", "(I)I"⟩
def RX6 : String := "SideVersions$Merger"
def TX6 : u_T := fun k => match k with
  | 0 => ("SideVersions$Merger", "kind", "I", false)
  | 1 => ("SideVersions$Merger", "rule", "I", false)
  | 2 => ("SideVersions$Merger", "value", "J", false)
  | _ => ("SideVersions$Merger", "over", "Z", false)
def tyX6 : Nat → FieldType := fun k => match k with
  | 0 => .int
  | 1 => .int
  | 2 => .long
  | _ => .boolean
abbrev wsX60 : List Cond := u_ws RX6 TX6 4
theorem nmX6 : ∀ a, a < 4 → ∀ b, b < 4 → a ≠ b → (TX6 a).2.1 ≠ (TX6 b).2.1 := by decide +kernel
theorem tyX6_ok : ∀ k, k < 4 → parseFieldDescriptor (TX6 k).2.2.1 = some (tyX6 k) := by decide +kernel
abbrev cX6_init : ByteArray := prog_8_method_1_code
def yX6_init : MethodName := ⟨RX6, "<init>", "()V"⟩
abbrev cX6_begin : ByteArray := prog_8_method_2_code
def yX6_begin : MethodName := ⟨RX6, "begin", "(II)V"⟩
abbrev cX6_add : ByteArray := prog_8_method_3_code
def yX6_add : MethodName := ⟨RX6, "add", "(J)V"⟩
abbrev cX6_end : ByteArray := prog_8_method_4_code
def yX6_end : MethodName := ⟨RX6, "end", "()V"⟩
abbrev cX6_putTogether : ByteArray := prog_8_method_5_code
def yX6_putTogether : MethodName := ⟨RX6, "putTogether", "(J)V"⟩
abbrev cX6_keepCommon : ByteArray := prog_8_method_6_code
def yX6_keepCommon : MethodName := ⟨RX6, "keepCommon", "(J)V"⟩
abbrev cX6_divisorOf : ByteArray := prog_8_method_7_code
def yX6_divisorOf : MethodName := ⟨RX6, "divisorOf", "(JJ)J"⟩
def RX7 : String := "SideVersions$Plan"
def TX7 : u_T := fun k => match k with
  | 0 => ("SideVersions$Plan", "kinds", "[I", true)
  | 1 => ("SideVersions$Plan", "sites", "I", false)
  | 2 => ("SideVersions$Plan", "bound", "I", false)
  | 3 => ("SideVersions$Plan", "limit", "I", false)
  | 4 => ("SideVersions$Plan", "keyTotal", "I", false)
  | _ => ("SideVersions$Plan", "items", "I", false)
def tyX7 : Nat → FieldType := fun k => match k with
  | 0 => .array .int
  | 1 => .int
  | 2 => .int
  | 3 => .int
  | 4 => .int
  | _ => .int
abbrev wsX70 : List Cond := u_ws RX7 TX7 6
theorem nmX7 : ∀ a, a < 6 → ∀ b, b < 6 → a ≠ b → (TX7 a).2.1 ≠ (TX7 b).2.1 := by decide +kernel
theorem tyX7_ok : ∀ k, k < 6 → parseFieldDescriptor (TX7 k).2.2.1 = some (tyX7 k) := by decide +kernel
abbrev cX7_init : ByteArray := prog_9_method_1_code
def yX7_init : MethodName := ⟨RX7, "<init>", "()V"⟩
abbrev cX7_fill : ByteArray := prog_9_method_2_code
def yX7_fill : MethodName := ⟨RX7, "fill", "(LSideVersions$Text;)I"⟩
abbrev cX7_kindOf : ByteArray := prog_9_method_3_code
def yX7_kindOf : MethodName := ⟨RX7, "kindOf", "(I)I"⟩
abbrev cX7_forget : ByteArray := prog_9_method_4_code
def yX7_forget : MethodName := ⟨RX7, "forget", "()V"⟩
abbrev cX7_putUsual : ByteArray := prog_9_method_5_code
def yX7_putUsual : MethodName := ⟨RX7, "putUsual", "()V"⟩
abbrev cX7_takesItem : ByteArray := prog_9_method_6_code
def yX7_takesItem : MethodName := ⟨RX7, "takesItem", "(LSideVersions$Text;)Z"⟩
abbrev cX7_takesKey : ByteArray := prog_9_method_7_code
def yX7_takesKey : MethodName := ⟨RX7, "takesKey", "(LSideVersions$Text;I)Z"⟩
abbrev cX7_takenNumber : ByteArray := prog_9_method_8_code
def yX7_takenNumber : MethodName := ⟨RX7, "takenNumber", "(LSideVersions$Text;II)I"⟩
abbrev cX7_takesSemicolon : ByteArray := prog_9_method_9_code
def yX7_takesSemicolon : MethodName := ⟨RX7, "takesSemicolon", "(LSideVersions$Text;)Z"⟩
def RX8 : String := "SideVersions$Replica"
def TX8 : u_T := fun k => match k with
  | 0 => ("SideVersions$Replica", "site", "I", true)
  | 1 => ("SideVersions$Replica", "journal", "LSideVersions$Journal;", true)
  | 2 => ("SideVersions$Replica", "siblings", "LSideVersions$Dots;", true)
  | _ => ("SideVersions$Replica", "numbers", "I", false)
def tyX8 : Nat → FieldType := fun k => match k with
  | 0 => .int
  | 1 => .object "SideVersions$Journal"
  | 2 => .object "SideVersions$Dots"
  | _ => .int
abbrev wsX80 : List Cond := u_ws RX8 TX8 4
theorem nmX8 : ∀ a, a < 4 → ∀ b, b < 4 → a ≠ b → (TX8 a).2.1 ≠ (TX8 b).2.1 := by decide +kernel
theorem tyX8_ok : ∀ k, k < 4 → parseFieldDescriptor (TX8 k).2.2.1 = some (tyX8 k) := by decide +kernel
abbrev cX8_init : ByteArray := prog_10_method_1_code
def yX8_init : MethodName := ⟨RX8, "<init>", "(ILSideVersions$Journal;)V"⟩
abbrev cX8_beginAnew : ByteArray := prog_10_method_2_code
def yX8_beginAnew : MethodName := ⟨RX8, "beginAnew", "()V"⟩
abbrev cX8_nextNumber : ByteArray := prog_10_method_3_code
def yX8_nextNumber : MethodName := ⟨RX8, "nextNumber", "()I"⟩
abbrev cX8_take : ByteArray := prog_10_method_4_code
def yX8_take : MethodName := ⟨RX8, "take", "(JIII)V"⟩
abbrev cX8_receive : ByteArray := prog_10_method_5_code
def yX8_receive : MethodName := ⟨RX8, "receive", "(LSideVersions$Replica;)V"⟩
abbrev cX8_dropBeyond : ByteArray := prog_10_method_6_code
def yX8_dropBeyond : MethodName := ⟨RX8, "dropBeyond", "(I)V"⟩
abbrev cX8_blend : ByteArray := prog_10_method_7_code
def yX8_blend : MethodName := ⟨RX8, "blend", "(LSideVersions$Merger;I)V"⟩
abbrev cX8_mergeInto : ByteArray := prog_10_method_8_code
def yX8_mergeInto : MethodName := ⟨RX8, "mergeInto", "(JI)V"⟩
abbrev cX8_covered : ByteArray := prog_10_method_9_code
def yX8_covered : MethodName := ⟨RX8, "covered", "(I)J"⟩
abbrev cX8_gone : ByteArray := prog_10_method_10_code
def yX8_gone : MethodName := ⟨RX8, "gone", "(I)J"⟩
def RX9 : String := "SideVersions$Rows"
def TX9 : u_T := fun k => match k with
  | _ => ("", "", "", false)
def tyX9 : Nat → FieldType := fun k => match k with
  | _ => .int
abbrev wsX90 : List Cond := u_ws RX9 TX9 0
theorem nmX9 : ∀ a, a < 0 → ∀ b, b < 0 → a ≠ b → (TX9 a).2.1 ≠ (TX9 b).2.1 := by decide +kernel
theorem tyX9_ok : ∀ k, k < 0 → parseFieldDescriptor (TX9 k).2.2.1 = some (tyX9 k) := by decide +kernel
abbrev cX9_number : ByteArray := prog_11_method_2_code
def yX9_number : MethodName := ⟨RX9, "number", "(II)I"⟩
abbrev cX9_with : ByteArray := prog_11_method_3_code
def yX9_with : MethodName := ⟨RX9, "with", "(III)I"⟩
abbrev cX9_greater : ByteArray := prog_11_method_4_code
def yX9_greater : MethodName := ⟨RX9, "greater", "(II)I"⟩
abbrev cX9_sum : ByteArray := prog_11_method_5_code
def yX9_sum : MethodName := ⟨RX9, "sum", "(I)I"⟩
abbrev cX9_aboveZero : ByteArray := prog_11_method_6_code
def yX9_aboveZero : MethodName := ⟨RX9, "aboveZero", "(I)I"⟩
def RX10 : String := "SideVersions$Text"
def TX10 : u_T := fun k => match k with
  | 0 => ("SideVersions$Text", "bytes", "[I", true)
  | 1 => ("SideVersions$Text", "length", "I", false)
  | 2 => ("SideVersions$Text", "start", "I", false)
  | 3 => ("SideVersions$Text", "end", "I", false)
  | _ => ("SideVersions$Text", "sort", "I", false)
def tyX10 : Nat → FieldType := fun k => match k with
  | 0 => .array .int
  | 1 => .int
  | 2 => .int
  | 3 => .int
  | _ => .int
abbrev wsX100 : List Cond := u_ws RX10 TX10 5
theorem nmX10 : ∀ a, a < 5 → ∀ b, b < 5 → a ≠ b → (TX10 a).2.1 ≠ (TX10 b).2.1 := by decide +kernel
theorem tyX10_ok : ∀ k, k < 5 → parseFieldDescriptor (TX10 k).2.2.1 = some (tyX10 k) := by decide +kernel
abbrev cX10_init : ByteArray := prog_12_method_1_code
def yX10_init : MethodName := ⟨RX10, "<init>", "()V"⟩
abbrev cX10_isFull : ByteArray := prog_12_method_2_code
def yX10_isFull : MethodName := ⟨RX10, "isFull", "()Z"⟩
abbrev cX10_append : ByteArray := prog_12_method_3_code
def yX10_append : MethodName := ⟨RX10, "append", "(I)V"⟩
abbrev cX10_empty : ByteArray := prog_12_method_4_code
def yX10_empty : MethodName := ⟨RX10, "empty", "()V"⟩
abbrev cX10_rewind : ByteArray := prog_12_method_5_code
def yX10_rewind : MethodName := ⟨RX10, "rewind", "()V"⟩
abbrev cX10_step : ByteArray := prog_12_method_6_code
def yX10_step : MethodName := ⟨RX10, "step", "()V"⟩
abbrev cX10_isWord : ByteArray := prog_12_method_7_code
def yX10_isWord : MethodName := ⟨RX10, "isWord", "(Ljava/lang/String;)Z"⟩
abbrev cX10_digit : ByteArray := prog_12_method_8_code
def yX10_digit : MethodName := ⟨RX10, "digit", "()I"⟩
abbrev cX10_byteAt : ByteArray := prog_12_method_9_code
def yX10_byteAt : MethodName := ⟨RX10, "byteAt", "(I)I"⟩
abbrev cX10_sortAt : ByteArray := prog_12_method_10_code
def yX10_sortAt : MethodName := ⟨RX10, "sortAt", "(I)I"⟩
def RX11 : String := "SideVersions"
def TX11 : u_T := fun k => match k with
  | 0 => ("SideVersions", "text", "LSideVersions$Text;", true)
  | 1 => ("SideVersions", "plan", "LSideVersions$Plan;", true)
  | 2 => ("SideVersions", "keys", "[LSideVersions$Key;", true)
  | 3 => ("SideVersions", "clients", "[LSideVersions$Client;", true)
  | 4 => ("SideVersions", "mergeRules", "LSideVersions$MergeRules;", true)
  | 5 => ("SideVersions", "merger", "LSideVersions$Merger;", true)
  | 6 => ("SideVersions", "gossip", "LSideVersions$Gossip;", true)
  | 7 => ("SideVersions", "sites", "I", false)
  | 8 => ("SideVersions", "bound", "I", false)
  | 9 => ("SideVersions", "limit", "I", false)
  | 10 => ("SideVersions", "keyTotal", "I", false)
  | _ => ("SideVersions", "lastStamp", "I", false)
def tyX11 : Nat → FieldType := fun k => match k with
  | 0 => .object "SideVersions$Text"
  | 1 => .object "SideVersions$Plan"
  | 2 => .array (.object "SideVersions$Key")
  | 3 => .array (.object "SideVersions$Client")
  | 4 => .object "SideVersions$MergeRules"
  | 5 => .object "SideVersions$Merger"
  | 6 => .object "SideVersions$Gossip"
  | 7 => .int
  | 8 => .int
  | 9 => .int
  | 10 => .int
  | _ => .int
abbrev wsX110 : List Cond := u_ws RX11 TX11 12
theorem nmX11 : ∀ a, a < 12 → ∀ b, b < 12 → a ≠ b → (TX11 a).2.1 ≠ (TX11 b).2.1 := by decide +kernel
theorem tyX11_ok : ∀ k, k < 12 → parseFieldDescriptor (TX11 k).2.2.1 = some (tyX11 k) := by decide +kernel
abbrev cX11_init : ByteArray := prog_1_method_1_code
def yX11_init : MethodName := ⟨RX11, "<init>", "()V"⟩
abbrev cX11_type : ByteArray := prog_1_method_2_code
def yX11_type : MethodName := ⟨RX11, "type", "(I)I"⟩
abbrev cX11_clear : ByteArray := prog_1_method_3_code
def yX11_clear : MethodName := ⟨RX11, "clear", "()I"⟩
abbrev cX11_tells : ByteArray := prog_1_method_4_code
def yX11_tells : MethodName := ⟨RX11, "tells", "()I"⟩
abbrev cX11_reads : ByteArray := prog_1_method_5_code
def yX11_reads : MethodName := ⟨RX11, "reads", "(III)I"⟩
abbrev cX11_writes : ByteArray := prog_1_method_6_code
def yX11_writes : MethodName := ⟨RX11, "writes", "(IIIIJ)I"⟩
abbrev cX11_blinds : ByteArray := prog_1_method_7_code
def yX11_blinds : MethodName := ⟨RX11, "blinds", "(I)I"⟩
abbrev cX11_sends : ByteArray := prog_1_method_8_code
def yX11_sends : MethodName := ⟨RX11, "sends", "(III)I"⟩
abbrev cX11_merges : ByteArray := prog_1_method_9_code
def yX11_merges : MethodName := ⟨RX11, "merges", "(II)I"⟩
abbrev cX11_rules : ByteArray := prog_1_method_10_code
def yX11_rules : MethodName := ⟨RX11, "rules", "(II)I"⟩
abbrev cX11_row : ByteArray := prog_1_method_11_code
def yX11_row : MethodName := ⟨RX11, "row", "(III)I"⟩
abbrev cX11_sibling : ByteArray := prog_1_method_12_code
def yX11_sibling : MethodName := ⟨RX11, "sibling", "(IIII)J"⟩
abbrev cX11_context : ByteArray := prog_1_method_13_code
def yX11_context : MethodName := ⟨RX11, "context", "(II)I"⟩
abbrev cX11_write : ByteArray := prog_1_method_14_code
def yX11_write : MethodName := ⟨RX11, "write", "(IIII)J"⟩
abbrev cX11_ahead : ByteArray := prog_1_method_15_code
def yX11_ahead : MethodName := ⟨RX11, "ahead", "(IIIIII)I"⟩
abbrev cX11_alike : ByteArray := prog_1_method_16_code
def yX11_alike : MethodName := ⟨RX11, "alike", "(III)I"⟩
abbrev cX11_behind : ByteArray := prog_1_method_17_code
def yX11_behind : MethodName := ⟨RX11, "behind", "(II)I"⟩
abbrev cX11_spread : ByteArray := prog_1_method_18_code
def yX11_spread : MethodName := ⟨RX11, "spread", "(II)I"⟩
abbrev cX11_rule : ByteArray := prog_1_method_19_code
def yX11_rule : MethodName := ⟨RX11, "rule", "(II)I"⟩
abbrev cX11_tally : ByteArray := prog_1_method_20_code
def yX11_tally : MethodName := ⟨RX11, "tally", "(II)I"⟩
abbrev cX11_count : ByteArray := prog_1_method_21_code
def yX11_count : MethodName := ⟨RX11, "count", "(I)I"⟩
abbrev cX11_beginAnew : ByteArray := prog_1_method_22_code
def yX11_beginAnew : MethodName := ⟨RX11, "beginAnew", "()V"⟩
abbrev cX11_isSite : ByteArray := prog_1_method_23_code
def yX11_isSite : MethodName := ⟨RX11, "isSite", "(I)Z"⟩
abbrev cX11_keyAt : ByteArray := prog_1_method_24_code
def yX11_keyAt : MethodName := ⟨RX11, "keyAt", "(I)LSideVersions$Key;"⟩
abbrev cX11_clientAt : ByteArray := prog_1_method_25_code
def yX11_clientAt : MethodName := ⟨RX11, "clientAt", "(I)LSideVersions$Client;"⟩
abbrev cX11_replicaAt : ByteArray := prog_1_method_26_code
def yX11_replicaAt : MethodName := ⟨RX11, "replicaAt", "(II)LSideVersions$Replica;"⟩
abbrev cX11_dotAt : ByteArray := prog_1_method_27_code
def yX11_dotAt : MethodName := ⟨RX11, "dotAt", "(III)I"⟩
abbrev cX11_bit : ByteArray := prog_1_method_28_code
def yX11_bit : MethodName := ⟨RX11, "bit", "(Z)I"⟩
def RX12 : String := "SideVersionsModel"
def TX12 : u_T := fun k => match k with
  | 0 => ("SideVersionsModel", "sites", "I", false)
  | 1 => ("SideVersionsModel", "bound", "I", false)
  | 2 => ("SideVersionsModel", "limit", "I", false)
  | 3 => ("SideVersionsModel", "keys", "I", false)
  | 4 => ("SideVersionsModel", "kind", "[I", true)
  | 5 => ("SideVersionsModel", "stamps", "I", false)
  | 6 => ("SideVersionsModel", "value", "[J", true)
  | 7 => ("SideVersionsModel", "stamp", "[I", true)
  | 8 => ("SideVersionsModel", "told", "[I", true)
  | 9 => ("SideVersionsModel", "known", "[I", true)
  | 10 => ("SideVersionsModel", "seen", "[Z", true)
  | 11 => ("SideVersionsModel", "dropped", "[Z", true)
  | 12 => ("SideVersionsModel", "replaced", "[Z", true)
  | 13 => ("SideVersionsModel", "merged", "[Z", true)
  | 14 => ("SideVersionsModel", "beside", "[I", true)
  | 15 => ("SideVersionsModel", "made", "[I", true)
  | 16 => ("SideVersionsModel", "row", "[I", true)
  | 17 => ("SideVersionsModel", "falses", "[I", true)
  | 18 => ("SideVersionsModel", "contextKey", "[I", true)
  | 19 => ("SideVersionsModel", "contextKnows", "[I", true)
  | 20 => ("SideVersionsModel", "contextTells", "[I", true)
  | 21 => ("SideVersionsModel", "ruleMany", "I", false)
  | 22 => ("SideVersionsModel", "ruleKey", "[I", true)
  | 23 => ("SideVersionsModel", "rule", "[I", true)
  | 24 => ("SideVersionsModel", "letterMany", "I", false)
  | 25 => ("SideVersionsModel", "text", "[I", true)
  | 26 => ("SideVersionsModel", "readAt", "I", false)
  | 27 => ("SideVersionsModel", "tokenAt", "I", false)
  | 28 => ("SideVersionsModel", "sort", "I", false)
  | 29 => ("SideVersionsModel", "token", "J", false)
  | 30 => ("SideVersionsModel", "newSites", "I", false)
  | 31 => ("SideVersionsModel", "newBound", "I", false)
  | 32 => ("SideVersionsModel", "newLimit", "I", false)
  | 33 => ("SideVersionsModel", "newKeys", "I", false)
  | 34 => ("SideVersionsModel", "newKind", "[I", true)
  | 35 => ("SideVersionsModel", "isOver", "Z", false)
  | 36 => ("SideVersionsModel", "setRow", "[I", true)
  | 37 => ("SideVersionsModel", "setBeside", "[J", true)
  | 38 => ("SideVersionsModel", "like", "[I", true)
  | 39 => ("SideVersionsModel", "far", "[I", true)
  | _ => ("SideVersionsModel", "queue", "[I", true)
def tyX12 : Nat → FieldType := fun k => match k with
  | 0 => .int
  | 1 => .int
  | 2 => .int
  | 3 => .int
  | 4 => .array .int
  | 5 => .int
  | 6 => .array .long
  | 7 => .array .int
  | 8 => .array .int
  | 9 => .array .int
  | 10 => .array .boolean
  | 11 => .array .boolean
  | 12 => .array .boolean
  | 13 => .array .boolean
  | 14 => .array .int
  | 15 => .array .int
  | 16 => .array .int
  | 17 => .array .int
  | 18 => .array .int
  | 19 => .array .int
  | 20 => .array .int
  | 21 => .int
  | 22 => .array .int
  | 23 => .array .int
  | 24 => .int
  | 25 => .array .int
  | 26 => .int
  | 27 => .int
  | 28 => .int
  | 29 => .long
  | 30 => .int
  | 31 => .int
  | 32 => .int
  | 33 => .int
  | 34 => .array .int
  | 35 => .boolean
  | 36 => .array .int
  | 37 => .array .long
  | 38 => .array .int
  | 39 => .array .int
  | _ => .array .int
abbrev wsX120 : List Cond := u_ws RX12 TX12 41
theorem nmX12 : ∀ a, a < 41 → ∀ b, b < 41 → a ≠ b → (TX12 a).2.1 ≠ (TX12 b).2.1 := by decide +kernel
theorem tyX12_ok : ∀ k, k < 41 → parseFieldDescriptor (TX12 k).2.2.1 = some (tyX12 k) := by decide +kernel
abbrev cX12_init : ByteArray := prog_14_method_1_code
def yX12_init : MethodName := ⟨RX12, "<init>", "()V"⟩
abbrev cX12_in : ByteArray := prog_14_method_2_code
def yX12_in : MethodName := ⟨RX12, "in", "(JJJ)Z"⟩
abbrev cX12_has : ByteArray := prog_14_method_3_code
def yX12_has : MethodName := ⟨RX12, "has", "(II)Z"⟩
abbrev cX12_begins : ByteArray := prog_14_method_4_code
def yX12_begins : MethodName := ⟨RX12, "begins", "()V"⟩
abbrev cX12_forgets : ByteArray := prog_14_method_5_code
def yX12_forgets : MethodName := ⟨RX12, "forgets", "()V"⟩
abbrev cX12_at : ByteArray := prog_14_method_6_code
def yX12_at : MethodName := ⟨RX12, "at", "(III)I"⟩
abbrev cX12_rowAt : ByteArray := prog_14_method_7_code
def yX12_rowAt : MethodName := ⟨RX12, "rowAt", "(II)I"⟩
abbrev cX12_isSite : ByteArray := prog_14_method_8_code
def yX12_isSite : MethodName := ⟨RX12, "isSite", "(I)Z"⟩
abbrev cX12_isKey : ByteArray := prog_14_method_9_code
def yX12_isKey : MethodName := ⟨RX12, "isKey", "(I)Z"⟩
abbrev cX12_isClient : ByteArray := prog_14_method_10_code
def yX12_isClient : MethodName := ⟨RX12, "isClient", "(I)Z"⟩
abbrev cX12_isWrite : ByteArray := prog_14_method_11_code
def yX12_isWrite : MethodName := ⟨RX12, "isWrite", "(III)Z"⟩
abbrev cX12_type : ByteArray := prog_14_method_12_code
def yX12_type : MethodName := ⟨RX12, "type", "(I)I"⟩
abbrev cX12_clear : ByteArray := prog_14_method_13_code
def yX12_clear : MethodName := ⟨RX12, "clear", "()I"⟩
abbrev cX12_isBetween : ByteArray := prog_14_method_14_code
def yX12_isBetween : MethodName := ⟨RX12, "isBetween", "(II)Z"⟩
abbrev cX12_next : ByteArray := prog_14_method_15_code
def yX12_next : MethodName := ⟨RX12, "next", "()V"⟩
abbrev cX12_word : ByteArray := prog_14_method_16_code
def yX12_word : MethodName := ⟨RX12, "word", "(IIIII)J"⟩
abbrev cX12_number : ByteArray := prog_14_method_17_code
def yX12_number : MethodName := ⟨RX12, "number", "(II)Z"⟩
abbrev cX12_stops : ByteArray := prog_14_method_18_code
def yX12_stops : MethodName := ⟨RX12, "stops", "()Z"⟩
abbrev cX12_readsItem : ByteArray := prog_14_method_19_code
def yX12_readsItem : MethodName := ⟨RX12, "readsItem", "()Z"⟩
abbrev cX12_tells : ByteArray := prog_14_method_20_code
def yX12_tells : MethodName := ⟨RX12, "tells", "()I"⟩
abbrev cX12_siblings : ByteArray := prog_14_method_21_code
def yX12_siblings : MethodName := ⟨RX12, "siblings", "(II)I"⟩
abbrev cX12_eldest : ByteArray := prog_14_method_22_code
def yX12_eldest : MethodName := ⟨RX12, "eldest", "(II)I"⟩
abbrev cX12_bounds : ByteArray := prog_14_method_23_code
def yX12_bounds : MethodName := ⟨RX12, "bounds", "(II)V"⟩
abbrev cX12_reads : ByteArray := prog_14_method_24_code
def yX12_reads : MethodName := ⟨RX12, "reads", "(III)I"⟩
abbrev cX12_comes : ByteArray := prog_14_method_25_code
def yX12_comes : MethodName := ⟨RX12, "comes", "(IIJ)I"⟩
abbrev cX12_writes : ByteArray := prog_14_method_26_code
def yX12_writes : MethodName := ⟨RX12, "writes", "(IIIIJ)I"⟩
abbrev cX12_blinds : ByteArray := prog_14_method_27_code
def yX12_blinds : MethodName := ⟨RX12, "blinds", "(I)I"⟩
abbrev cX12_sends : ByteArray := prog_14_method_28_code
def yX12_sends : MethodName := ⟨RX12, "sends", "(III)I"⟩
abbrev cX12_sum : ByteArray := prog_14_method_29_code
def yX12_sum : MethodName := ⟨RX12, "sum", "(JJ)J"⟩
abbrev cX12_common : ByteArray := prog_14_method_30_code
def yX12_common : MethodName := ⟨RX12, "common", "(JJ)J"⟩
abbrev cX12_joined : ByteArray := prog_14_method_31_code
def yX12_joined : MethodName := ⟨RX12, "joined", "(IIJJ)J"⟩
abbrev cX12_ruleOf : ByteArray := prog_14_method_32_code
def yX12_ruleOf : MethodName := ⟨RX12, "ruleOf", "(I)I"⟩
abbrev cX12_joinedAll : ByteArray := prog_14_method_33_code
def yX12_joinedAll : MethodName := ⟨RX12, "joinedAll", "(III)J"⟩
abbrev cX12_merges : ByteArray := prog_14_method_34_code
def yX12_merges : MethodName := ⟨RX12, "merges", "(II)I"⟩
abbrev cX12_rules : ByteArray := prog_14_method_35_code
def yX12_rules : MethodName := ⟨RX12, "rules", "(II)I"⟩
abbrev cX12_row : ByteArray := prog_14_method_36_code
def yX12_row : MethodName := ⟨RX12, "row", "(III)I"⟩
abbrev cX12_sibling : ByteArray := prog_14_method_37_code
def yX12_sibling : MethodName := ⟨RX12, "sibling", "(IIII)J"⟩
abbrev cX12_context : ByteArray := prog_14_method_38_code
def yX12_context : MethodName := ⟨RX12, "context", "(II)I"⟩
abbrev cX12_bit : ByteArray := prog_14_method_39_code
def yX12_bit : MethodName := ⟨RX12, "bit", "(Z)I"⟩
abbrev cX12_isLost : ByteArray := prog_14_method_40_code
def yX12_isLost : MethodName := ⟨RX12, "isLost", "(I)Z"⟩
abbrev cX12_write : ByteArray := prog_14_method_41_code
def yX12_write : MethodName := ⟨RX12, "write", "(IIII)J"⟩
abbrev cX12_ahead : ByteArray := prog_14_method_42_code
def yX12_ahead : MethodName := ⟨RX12, "ahead", "(IIIIII)I"⟩
abbrev cX12_areAlike : ByteArray := prog_14_method_43_code
def yX12_areAlike : MethodName := ⟨RX12, "areAlike", "(III)Z"⟩
abbrev cX12_alike : ByteArray := prog_14_method_44_code
def yX12_alike : MethodName := ⟨RX12, "alike", "(III)I"⟩
abbrev cX12_behind : ByteArray := prog_14_method_45_code
def yX12_behind : MethodName := ⟨RX12, "behind", "(II)I"⟩
abbrev cX12_joinsSet : ByteArray := prog_14_method_46_code
def yX12_joinsSet : MethodName := ⟨RX12, "joinsSet", "(III)V"⟩
abbrev cX12_areLike : ByteArray := prog_14_method_47_code
def yX12_areLike : MethodName := ⟨RX12, "areLike", "(II)Z"⟩
abbrev cX12_laysSets : ByteArray := prog_14_method_48_code
def yX12_laysSets : MethodName := ⟨RX12, "laysSets", "(I)V"⟩
abbrev cX12_setOf : ByteArray := prog_14_method_49_code
def yX12_setOf : MethodName := ⟨RX12, "setOf", "(II)I"⟩
abbrev cX12_isAll : ByteArray := prog_14_method_50_code
def yX12_isAll : MethodName := ⟨RX12, "isAll", "(I)Z"⟩
abbrev cX12_sent : ByteArray := prog_14_method_51_code
def yX12_sent : MethodName := ⟨RX12, "sent", "(III)I"⟩
abbrev cX12_fewest : ByteArray := prog_14_method_52_code
def yX12_fewest : MethodName := ⟨RX12, "fewest", "(I)I"⟩
abbrev cX12_spread : ByteArray := prog_14_method_53_code
def yX12_spread : MethodName := ⟨RX12, "spread", "(II)I"⟩
abbrev cX12_rule : ByteArray := prog_14_method_54_code
def yX12_rule : MethodName := ⟨RX12, "rule", "(II)I"⟩
abbrev cX12_counted : ByteArray := prog_14_method_55_code
def yX12_counted : MethodName := ⟨RX12, "counted", "(II)I"⟩
abbrev cX12_tally : ByteArray := prog_14_method_56_code
def yX12_tally : MethodName := ⟨RX12, "tally", "(II)I"⟩
abbrev cX12_count : ByteArray := prog_14_method_57_code
def yX12_count : MethodName := ⟨RX12, "count", "(I)I"⟩
def RJ13 : String := "java/lang/Long"
def TJ13 : u_T := fun k => match k with
  | _ => ("", "", "", false)
def tyJ13 : Nat → FieldType := fun k => match k with
  | _ => .int
abbrev wsJ130 : List Cond := u_ws RJ13 TJ13 0
theorem nmJ13 : ∀ a, a < 0 → ∀ b, b < 0 → a ≠ b → (TJ13 a).2.1 ≠ (TJ13 b).2.1 := by decide +kernel
theorem tyJ13_ok : ∀ k, k < 0 → parseFieldDescriptor (TJ13 k).2.2.1 = some (tyJ13 k) := by decide +kernel
abbrev cJ13_bitCount_95d88 : ByteArray := prog_15_method_50_code
def yJ13_bitCount_95d88 : MethodName := ⟨RJ13, "bitCount", "(J)I"⟩
def RJ9 : String := "java/lang/Math"
def TJ9 : u_T := fun k => match k with
  | _ => ("", "", "", false)
def tyJ9 : Nat → FieldType := fun k => match k with
  | _ => .int
abbrev wsJ90 : List Cond := u_ws RJ9 TJ9 0
theorem nmJ9 : ∀ a, a < 0 → ∀ b, b < 0 → a ≠ b → (TJ9 a).2.1 ≠ (TJ9 b).2.1 := by decide +kernel
theorem tyJ9_ok : ∀ k, k < 0 → parseFieldDescriptor (TJ9 k).2.2.1 = some (tyJ9 k) := by decide +kernel
abbrev cJ9_max_7cf53 : ByteArray := prog_16_method_65_code
def yJ9_max_7cf53 : MethodName := ⟨RJ9, "max", "(II)I"⟩
abbrev cJ9_max_f86c9 : ByteArray := prog_16_method_66_code
def yJ9_max_f86c9 : MethodName := ⟨RJ9, "max", "(JJ)J"⟩
abbrev cJ9_min_7cf53 : ByteArray := prog_16_method_69_code
def yJ9_min_7cf53 : MethodName := ⟨RJ9, "min", "(II)I"⟩
abbrev cJ9_min_f86c9 : ByteArray := prog_16_method_70_code
def yJ9_min_f86c9 : MethodName := ⟨RJ9, "min", "(JJ)J"⟩
def RJ0 : String := "java/lang/String"
def TJ0 : u_T := fun k => match k with
  | _ => ("", "", "", false)
def tyJ0 : Nat → FieldType := fun k => match k with
  | _ => .int
abbrev wsJ00 : List Cond := u_ws RJ0 TJ0 0
theorem nmJ0 : ∀ a, a < 0 → ∀ b, b < 0 → a ≠ b → (TJ0 a).2.1 ≠ (TJ0 b).2.1 := by decide +kernel
theorem tyJ0_ok : ∀ k, k < 0 → parseFieldDescriptor (TJ0 k).2.2.1 = some (tyJ0 k) := by decide +kernel
abbrev cJ0_length_8abf5 : ByteArray := prog_17_method_54_code
def yJ0_length_8abf5 : MethodName := ⟨RJ0, "length", "()I"⟩
abbrev cJ0_charAt_5068e : ByteArray := prog_17_method_56_code
def yJ0_charAt_5068e : MethodName := ⟨RJ0, "charAt", "(I)C"⟩
abbrev cJ0_coder_7d493 : ByteArray := prog_17_method_152_code
def yJ0_coder_7d493 : MethodName := ⟨RJ0, "coder", "()B"⟩
abbrev cJ0_isLatin1_aae02 : ByteArray := prog_17_method_154_code
def yJ0_isLatin1_aae02 : MethodName := ⟨RJ0, "isLatin1", "()Z"⟩
abbrev cJ0_checkIndex_df160 : ByteArray := prog_17_method_155_code
def yJ0_checkIndex_df160 : MethodName := ⟨RJ0, "checkIndex", "(II)V"⟩
def RJ1 : String := "java/lang/StringLatin1"
def TJ1 : u_T := fun k => match k with
  | _ => ("", "", "", false)
def tyJ1 : Nat → FieldType := fun k => match k with
  | _ => .int
abbrev wsJ10 : List Cond := u_ws RJ1 TJ1 0
theorem nmJ1 : ∀ a, a < 0 → ∀ b, b < 0 → a ≠ b → (TJ1 a).2.1 ≠ (TJ1 b).2.1 := by decide +kernel
theorem tyJ1_ok : ∀ k, k < 0 → parseFieldDescriptor (TJ1 k).2.2.1 = some (tyJ1 k) := by decide +kernel
abbrev cJ1_charAt_3b067 : ByteArray := prog_18_method_2_code
def yJ1_charAt_3b067 : MethodName := ⟨RJ1, "charAt", "([BI)C"⟩
def RJ2 : String := "java/lang/StringUTF16"
def TJ2 : u_T := fun k => match k with
  | _ => ("", "", "", false)
def tyJ2 : Nat → FieldType := fun k => match k with
  | _ => .int
abbrev wsJ20 : List Cond := u_ws RJ2 TJ2 0
theorem nmJ2 : ∀ a, a < 0 → ∀ b, b < 0 → a ≠ b → (TJ2 a).2.1 ≠ (TJ2 b).2.1 := by decide +kernel
theorem tyJ2_ok : ∀ k, k < 0 → parseFieldDescriptor (TJ2 k).2.2.1 = some (tyJ2 k) := by decide +kernel
abbrev cJ2_getChar_3b067 : ByteArray := prog_19_method_5_code
def yJ2_getChar_3b067 : MethodName := ⟨RJ2, "getChar", "([BI)C"⟩
abbrev cJ2_length_9d52b : ByteArray := prog_19_method_6_code
def yJ2_length_9d52b : MethodName := ⟨RJ2, "length", "([B)I"⟩
abbrev cJ2_charAt_3b067 : ByteArray := prog_19_method_83_code
def yJ2_charAt_3b067 : MethodName := ⟨RJ2, "charAt", "([BI)C"⟩
abbrev cJ2_checkIndex_2214a : ByteArray := prog_19_method_91_code
def yJ2_checkIndex_2214a : MethodName := ⟨RJ2, "checkIndex", "(I[B)V"⟩
def RJ3 : String := "jdk/internal/util/Preconditions"
def TJ3 : u_T := fun k => match k with
  | _ => ("", "", "", false)
def tyJ3 : Nat → FieldType := fun k => match k with
  | _ => .int
abbrev wsJ30 : List Cond := u_ws RJ3 TJ3 0
theorem nmJ3 : ∀ a, a < 0 → ∀ b, b < 0 → a ≠ b → (TJ3 a).2.1 ≠ (TJ3 b).2.1 := by decide +kernel
theorem tyJ3_ok : ∀ k, k < 0 → parseFieldDescriptor (TJ3 k).2.2.1 = some (tyJ3 k) := by decide +kernel
abbrev cJ3_checkIndex_8e157 : ByteArray := prog_20_method_11_code
def yJ3_checkIndex_8e157 : MethodName := ⟨RJ3, "checkIndex", "(IILjava/util/function/BiFunction;)I"⟩
def RL : String := "SideVersionsLaw"
abbrev cL_law : ByteArray := code
def yL_law : MethodName := ⟨RL, "law", "([I)Z"⟩
abbrev vwCl : List vw_C := [(RX0, TX0, 3), (RX1, TX1, 1), (RX2, TX2, 3), (RX3, TX3, 11), (RX4, TX4, 2), (RX5, TX5, 3), (RX6, TX6, 4), (RX7, TX7, 6), (RX8, TX8, 4), (RX10, TX10, 5), (RX11, TX11, 12), (RX12, TX12, 41)]
end
section
/-! THE ENGINE. A heap of the system as a function (eH), one judgement (e_K) for 'from here the method comes to its end with X', and one row an instruction. -/
abbrev eO : Type := (Nat × vp_A) ⊕ (Nat × (Nat → Value))
abbrev eH : Type := Nat → Option eO
abbrev oI (t n : Nat) (f : Nat → Int32) : eO := .inl (t, (n, .inl f))
abbrev oL (t n : Nat) (f : Nat → Int64) : eO := .inl (t, (n, .inr (.inl f)))
abbrev oR (t n : Nat) (f : Nat → Option Nat) : eO := .inl (t, (n, .inr (.inr (.inr (.inr f)))))
abbrev oB (c : Nat) (V : Nat → Value) : eO := .inr (c, V)
def h_set (h : eH) (a : Nat) (o : eO) : eH := fun q => if q = a then some o else h q
def e_let {α β : Type} (x : α) (f : α → β) : β := f x
/-- what a landed array or field gives; none where the machine would throw -/
def h_ai (h : eH) (t a : Nat) (i : Int32) : Option Int32 := match h a with
  | some (.inl (t', (n, .inl f))) => if t' = t ∧ ¬ i < 0 ∧ i.toNatClampNeg < n then some (f i.toNatClampNeg) else none
  | _ => none
def h_al64 (h : eH) (a : Nat) (i : Int32) : Option Int64 := match h a with
  | some (.inl (t', (n, .inr (.inl f)))) => if t' = 1 ∧ ¬ i < 0 ∧ i.toNatClampNeg < n then some (f i.toNatClampNeg) else none
  | _ => none
def h_ar (h : eH) (t a : Nat) (i : Int32) : Option Nat := match h a with
  | some (.inl (t', (n, .inr (.inr (.inr (.inr f)))))) => if t' = t ∧ ¬ i < 0 ∧ i.toNatClampNeg < n then f i.toNatClampNeg else none
  | _ => none
def h_len (h : eH) (a : Nat) : Option Int32 := match h a with
  | some (.inl (t', (n, _))) => if t' < 6 then some (Int32.ofNat n) else none
  | _ => none
def h_si (h : eH) (t a : Nat) (i x : Int32) : Option eH := match h a with
  | some (.inl (t', (n, .inl f))) => if t' = t ∧ ¬ i < 0 ∧ i.toNatClampNeg < n then some (h_set h a (oI t n (upd f i.toNatClampNeg x))) else none
  | _ => none
def h_sl (h : eH) (a : Nat) (i : Int32) (x : Int64) : Option eH := match h a with
  | some (.inl (t', (n, .inr (.inl f)))) => if t' = 1 ∧ ¬ i < 0 ∧ i.toNatClampNeg < n then some (h_set h a (oL 1 n (vp_updL f i.toNatClampNeg x))) else none
  | _ => none
def h_sr (h : eH) (t c a : Nat) (i : Int32) (x : Nat) : Option eH := match h a with
  | some (.inl (t', (n, .inr (.inr (.inr (.inr f)))))) => match h x with
    | some (.inr (c', _)) => if t' = t ∧ c' = c ∧ ¬ i < 0 ∧ i.toNatClampNeg < n then some (h_set h a (oR t n (va_up f i.toNatClampNeg (some x)))) else none
    | _ => none
  | _ => none
def h_g (h : eH) (c a k : Nat) : Option Value := match h a with
  | some (.inr (c', V)) => if c' = c then some (V k) else none
  | _ => none
def h_gi (h : eH) (c a k : Nat) : Option Int32 := (h_g h c a k).bind fun v => match v with
  | .int x => some x
  | _ => none
def h_gl (h : eH) (c a k : Nat) : Option Int64 := (h_g h c a k).bind fun v => match v with
  | .long x => some x
  | _ => none
def h_gr (h : eH) (c a k : Nat) : Option Nat := (h_g h c a k).bind fun v => match v with
  | .ref x => some x
  | _ => none
def h_p (h : eH) (c a k : Nat) (v : Value) : Option eH := match h a with
  | some (.inr (c', V)) => if c' = c then some (h_set h a (oB c (updV V k v))) else none
  | _ => none
/-- an object of a class is there -/
def h_is (h : eH) (c a : Nat) : Option Unit := match h a with
  | some (.inr (c', _)) => if c' = c then some () else none
  | _ => none
/-- a boolean -/
def h_z (x : Int32) : Option Int32 := if x = 0 ∨ x = 1 then some x else none
/-- the words, and what the machine is known to be -/
abbrev eG : Type := va_G × ((Nat → ClassId) × ((Nat → Nat) × (Nat → Nat)))
def e_tys (G : eG) : List (ClassId × FieldType) := [(G.2.1 0, .int), (G.2.1 1, .long), (G.2.1 2, .boolean), (G.2.1 3, .object RX4), (G.2.1 4, .object RX8), (G.2.1 5, .object RX0)]
def e_at (G : eG) (a : Nat) (o : eO) (H : Heap) : Prop := match o with
  | .inl x => H[a]? = some (vp_cell (G.2.1 x.1) x.2)
  | .inr x => ∃ r : vw_C, vwCl[x.1]? = some r ∧ t_OB a (G.1.1 x.1) r.2.2 (G.1.2 x.1) H x.2
def e_Hs (G : eG) (B0 n : Nat) (h : eH) (H : Heap) : Prop := H.size = n ∧ ∀ a o, h a = some o → B0 ≤ a ∧ e_at G a o H
def e_in (w : Cond) : Prop := w ∈ lw_tbl ∧ goodWord w = true
def e_isNest : Cond → Bool
  | .fieldLinkNest _ _ _ _ _ _ => true
  | .methodLinkNest _ _ _ _ => true
  | _ => false
def e_nin (w : Cond) : Prop := w ∈ lw_tbl ∧ e_isNest w = true
def e_slen : List Nat := [5, 4, 5, 5, 5]
def e_sbyt : List (List Int32) := [[119, 104, 111, 108, 101], [98, 105, 116, 115], [115, 105, 116, 101, 115], [98, 111, 117, 110, 100], [108, 105, 109, 105, 116]]
def e_sidx : List Nat := [55, 65, 67, 75, 76]
def e_stx : List String := ["whole", "bits", "sites", "bound", "limit"]
/-- the texts of the String constants, and the statics that the JDK reads -/
def e_Zs (G : eG) (B0 : Nat) (U : State) (H : Heap) : Prop :=
  vk_S 5 e_slen e_sbyt G.2.2.1 G.2.2.2 (fun q => B0 ≤ q) U H ∧ va_Z "java/lang/String" "COMPACT_STRINGS" "Z" (.int 1) (fun q => B0 ≤ q) U H ∧
  (∃ t : Nat, va_Z "jdk/internal/util/Preconditions" "SIOOBE_FORMATTER" "Ljava/util/function/BiFunction;" (.ref t) (fun q => B0 ≤ q) U H)
def e_Sr (G : eG) (U : State) : Prop := ∀ i : Nat, i < 5 → vk_R "SideVersions$Plan" (e_sidx.getD i 0) (e_stx.getD i "") (G.2.2.1 i) U
def e_Cx (G : eG) (B0 : Nat) (U : State) : Prop :=
  va_K G.1 vwCl (e_tys G) U ∧ (∀ w, e_in w → ∀ a, w.before a U = true) ∧ (∀ w, e_nin w → va_Nw w U) ∧ e_Zs G B0 U U.heap ∧ e_Sr G U ∧ B0 ≤ U.heap.size
theorem e_nin_onTables {w : Cond} (h : e_isNest w = true) : w.onTables = true := by
  cases w <;> first | rfl | (simp [e_isNest] at h)
theorem e_nin_warm {s U : State} (hW : s.WarmedH U.vm) {w : Cond} (h : e_isNest w = true) (hZ : va_Nw w s) : va_Nw w U := by
  cases w <;> first | exact va_Nw.warmF hW hZ | exact va_Nw.warmM hW hZ | (simp [e_isNest] at h)
theorem e_Zs.go {G : eG} {B0 : Nat} {u U : State} {H H1 : Heap} (hvm : u.vm.Alike U.vm) (hq : ∀ a : Nat, a < H.size → ¬ B0 ≤ a → H1[a]? = H[a]?) (h : e_Zs G B0 u H) : e_Zs G B0 U H1 := by
  obtain ⟨h1, h2, t, h3⟩ := h
  exact ⟨(vk_S.moved hvm h1).kept hq, (va_Z.moved hvm h2).kept hq, t, (va_Z.moved hvm h3).kept hq⟩
/-- the context goes on: to a state whose heap has the old cells below B0 -/
theorem e_Cx.go {G : eG} {B0 : Nat} {s U : State} (hW : s.WarmedH U.vm) (hsz : s.heap.size ≤ U.heap.size) (hq : ∀ a : Nat, a < s.heap.size → ¬ B0 ≤ a → U.heap[a]? = s.heap[a]?) (h : e_Cx G B0 s) : e_Cx G B0 U := by
  obtain ⟨h1, h2, h3, h4, h5, h6⟩ := h
  exact ⟨va_K.moved hW.alike h1, fun w hw a => word_at hW (good_of_word hw.2) (h2 w hw #[]), fun w hw => e_nin_warm hW hw.2 (h3 w hw), h4.go hW.alike hq, fun i hi => vk_R.warm hW (h5 i hi), Nat.le_trans h6 hsz⟩
theorem e_Cx.same {G : eG} {B0 : Nat} {s U : State} (hv : s.vm = U.vm) (hh : U.heap = s.heap) (h : e_Cx G B0 s) : e_Cx G B0 U := by
  refine e_Cx.go (s := s) ?_ (by rw [hh]; exact Nat.le_refl _) (fun a _ _ => by rw [hh]) h
  rw [← hv]; exact State.WarmedH.refl s
abbrev eT : Type := Program × Launch × Env × Room × State × MethodId × Array Value × List Frame × Method × Code × eG × Nat × Nat × Nat
def e_l (q : eT) : Launch := q.2.1
def e_G (q : eT) : eG := q.2.2.2.2.2.2.2.2.2.2.1
def e_B0 (q : eT) : Nat := q.2.2.2.2.2.2.2.2.2.2.2.1
def e_n (q : eT) : Nat := q.2.2.2.2.2.2.2.2.2.2.2.2.1
/-- what a method's walk stands on: the machine, the method's bytes, its class, the room for its callees, what it returns -/
def e_B (q : eT) (own : String) (cc : ByteArray) (nl fr lo : Nat) (ret : Option FieldType) (nm : String) : Prop := match q with
  | (p, _, _, R, s, m, _, _, meth, c, G, B0, _, nL) => p.tables.exec = Jvm.exec ∧ c.code = cc ∧ c.maxLocals = nL ∧ nL = nl ∧ s.vm.findClass own = some m.cls ∧ e_Cx G B0 s ∧ meth.locks = false ∧ R.frames = fr ∧ R.locals = lo ∧ meth.sig.returnType = ret ∧ meth.name = nm
def e_Q {ρ : Type} (en : ρ → Option Value) (G : eG) (B0 n : Nat) (r : ρ) (h : eH) : Array Value → State → Outcome → State → Prop := fun _ st o t => o = .returned (en r) ∧ e_Hs G B0 n h t.heap ∧ va_F (fun x => B0 ≤ x) st t
def e_K {ρ : Type} (en : ρ → Option Value) (q : eT) (r0 : ρ) (h0 : eH) (pc : Nat) (ls : List (Nat × Value)) (st : List Value) (h : eH) (X : Option (ρ × eH)) : Prop :=
  X = some (r0, h0) → match q with
  | (p, l, e, R, s, m, args, below, meth, c, G, B0, n, nL) => ∀ (H : Heap) (locs : List Loc) (la : Array Slot), e_Hs G B0 n h H → va_S (fun x => B0 ≤ x) s.heap H locs → lv_has la nL ls →
      W p l e R s m args below meth c H locs 0 0 (MQ below (e_Q en G B0 n r0 h0) args s 0 0 (fun x => B0 ≤ x)) (F0 m pc la st)
def e_P (G : eG) (B0 n : Nat) (av : List Value) (h : eH) : Array Value → State → Prop := fun v U => v = av.toArray ∧ e_Hs G B0 n h U.heap ∧ e_Cx G B0 U
/-- A CONTRACT: wherever F says what the method does, the machine does it -/
def e_C {ρ : Type} (en : ρ → Option Value) (l : Launch) (G : eG) (B0 n : Nat) (y : MethodName) (cc : ByteArray) (nL : Nat) (ret : Option FieldType) (fr lo : Nat) (av : List Value) (F : eH → Option (ρ × eH)) : Prop :=
  ∀ h r h', F h = some (r, h') → Met l y [Cond.code y cc nL ret] { frames := fr, cells := 0, slots := 0, locals := lo } (e_P G B0 n av h) (e_Q en G B0 n r h') 0 0 (fun x => B0 ≤ x)
def eI (r : Int32) : Option Value := some (.int r)
def eL (r : Int64) : Option Value := some (.long r)
def eV (_ : Unit) : Option Value := none
def eR (r : Option Nat) : Option Value := some (va_rf r)

section EK
variable {ρ : Type} {en : ρ → Option Value} {q : eT} {r0 : ρ} {h0 : eH} {pc : Nat} {ls : List (Nat × Value)} {st : List Value} {h : eH} {X X1 X2 : Option (ρ × eH)} {own : String} {cc : ByteArray} {nl fr lo : Nat} {ret : Option FieldType} {nm : String}
theorem k_none (hX : X = none) : e_K en q r0 h0 pc ls st h X := by
  subst hX
  intro hh; cases hh
theorem k_bind {α : Type} {x : Option α} {f : α → Option (ρ × eH)} (hh : ∀ v, x = some v → e_K en q r0 h0 pc ls st h (f v)) : e_K en q r0 h0 pc ls st h (x.bind f) := by
  cases x with
  | none => exact k_none rfl
  | some v => exact hh v rfl
theorem k_let {α : Type} {x : α} {f : α → Option (ρ × eH)} {pc : Nat} {ls : List (Nat × Value)} {mk : α → List Value} (hh : ∀ v, v = x → e_K en q r0 h0 pc ls (mk v) h (f v)) : e_K en q r0 h0 pc ls (mk x) h (e_let x f) := hh x rfl
theorem k_ite {c : Prop} {dc : Decidable c} (k1 : c → e_K en q r0 h0 pc ls st h X1) (k2 : ¬ c → e_K en q r0 h0 pc ls st h X2) : e_K en q r0 h0 pc ls st h (@ite _ c dc X1 X2) := by
  by_cases hc : c
  · rw [if_pos hc]; exact k1 hc
  · rw [if_neg hc]; exact k2 hc
theorem k_sub {ls' : List (Nat × Value)} (ks : List Nat) (hl : lv_pick ls ks = ls') (kk : e_K en q r0 h0 pc ls' st h X) : e_K en q r0 h0 pc ls st h X := by
  obtain ⟨p, l, e, R, s, m, args, below, meth, c, G, B0, nn, nL⟩ := q
  exact fun hX H locs la hH hS hla => kk hX H locs la hH hS (lv_sub hla ks hl)

theorem k_iadd (hq : e_B q own cc nl fr lo ret nm) {x y : Int32} (hd : decode cc pc = .ok (.iadd, 1))  (kk : e_K en q r0 h0 (pc + 1) ls (.int (x + y) :: st) h X) : e_K en q r0 h0 pc ls (.int y :: .int x :: st) h X := by
  obtain ⟨p, l, e, R, s, m, args, below, meth, c, G, B0, nn, nL⟩ := q
  obtain ⟨hx, hb, -⟩ := hq
  exact fun hX H locs la hH hS hla => lv_iadd hx hb hd (kk hX H locs la hH hS hla)
theorem k_isub (hq : e_B q own cc nl fr lo ret nm) {x y : Int32} (hd : decode cc pc = .ok (.isub, 1))  (kk : e_K en q r0 h0 (pc + 1) ls (.int (x - y) :: st) h X) : e_K en q r0 h0 pc ls (.int y :: .int x :: st) h X := by
  obtain ⟨p, l, e, R, s, m, args, below, meth, c, G, B0, nn, nL⟩ := q
  obtain ⟨hx, hb, -⟩ := hq
  exact fun hX H locs la hH hS hla => lv_isub hx hb hd (kk hX H locs la hH hS hla)
theorem k_imul (hq : e_B q own cc nl fr lo ret nm) {x y : Int32} (hd : decode cc pc = .ok (.imul, 1))  (kk : e_K en q r0 h0 (pc + 1) ls (.int (x * y) :: st) h X) : e_K en q r0 h0 pc ls (.int y :: .int x :: st) h X := by
  obtain ⟨p, l, e, R, s, m, args, below, meth, c, G, B0, nn, nL⟩ := q
  obtain ⟨hx, hb, -⟩ := hq
  exact fun hX H locs la hH hS hla => lv_imul hx hb hd (kk hX H locs la hH hS hla)
theorem k_iand (hq : e_B q own cc nl fr lo ret nm) {x y : Int32} (hd : decode cc pc = .ok (.iand, 1))  (kk : e_K en q r0 h0 (pc + 1) ls (.int (x &&& y) :: st) h X) : e_K en q r0 h0 pc ls (.int y :: .int x :: st) h X := by
  obtain ⟨p, l, e, R, s, m, args, below, meth, c, G, B0, nn, nL⟩ := q
  obtain ⟨hx, hb, -⟩ := hq
  exact fun hX H locs la hH hS hla => lv_iand hx hb hd (kk hX H locs la hH hS hla)
theorem k_ior (hq : e_B q own cc nl fr lo ret nm) {x y : Int32} (hd : decode cc pc = .ok (.ior, 1))  (kk : e_K en q r0 h0 (pc + 1) ls (.int (x ||| y) :: st) h X) : e_K en q r0 h0 pc ls (.int y :: .int x :: st) h X := by
  obtain ⟨p, l, e, R, s, m, args, below, meth, c, G, B0, nn, nL⟩ := q
  obtain ⟨hx, hb, -⟩ := hq
  exact fun hX H locs la hH hS hla => lv_ior hx hb hd (kk hX H locs la hH hS hla)
theorem k_ixor (hq : e_B q own cc nl fr lo ret nm) {x y : Int32} (hd : decode cc pc = .ok (.ixor, 1))  (kk : e_K en q r0 h0 (pc + 1) ls (.int (x ^^^ y) :: st) h X) : e_K en q r0 h0 pc ls (.int y :: .int x :: st) h X := by
  obtain ⟨p, l, e, R, s, m, args, below, meth, c, G, B0, nn, nL⟩ := q
  obtain ⟨hx, hb, -⟩ := hq
  exact fun hX H locs la hH hS hla => lv_ixor hx hb hd (kk hX H locs la hH hS hla)
theorem k_ladd (hq : e_B q own cc nl fr lo ret nm) {x y : Int64} (hd : decode cc pc = .ok (.ladd, 1))  (kk : e_K en q r0 h0 (pc + 1) ls (.long (x + y) :: st) h X) : e_K en q r0 h0 pc ls (.long y :: .long x :: st) h X := by
  obtain ⟨p, l, e, R, s, m, args, below, meth, c, G, B0, nn, nL⟩ := q
  obtain ⟨hx, hb, -⟩ := hq
  exact fun hX H locs la hH hS hla => lv_ladd hx hb hd (kk hX H locs la hH hS hla)
theorem k_lsub (hq : e_B q own cc nl fr lo ret nm) {x y : Int64} (hd : decode cc pc = .ok (.lsub, 1))  (kk : e_K en q r0 h0 (pc + 1) ls (.long (x - y) :: st) h X) : e_K en q r0 h0 pc ls (.long y :: .long x :: st) h X := by
  obtain ⟨p, l, e, R, s, m, args, below, meth, c, G, B0, nn, nL⟩ := q
  obtain ⟨hx, hb, -⟩ := hq
  exact fun hX H locs la hH hS hla => lv_lsub hx hb hd (kk hX H locs la hH hS hla)
theorem k_lmul (hq : e_B q own cc nl fr lo ret nm) {x y : Int64} (hd : decode cc pc = .ok (.lmul, 1))  (kk : e_K en q r0 h0 (pc + 1) ls (.long (x * y) :: st) h X) : e_K en q r0 h0 pc ls (.long y :: .long x :: st) h X := by
  obtain ⟨p, l, e, R, s, m, args, below, meth, c, G, B0, nn, nL⟩ := q
  obtain ⟨hx, hb, -⟩ := hq
  exact fun hX H locs la hH hS hla => lv_lmul hx hb hd (kk hX H locs la hH hS hla)
theorem k_land (hq : e_B q own cc nl fr lo ret nm) {x y : Int64} (hd : decode cc pc = .ok (.land, 1))  (kk : e_K en q r0 h0 (pc + 1) ls (.long (x &&& y) :: st) h X) : e_K en q r0 h0 pc ls (.long y :: .long x :: st) h X := by
  obtain ⟨p, l, e, R, s, m, args, below, meth, c, G, B0, nn, nL⟩ := q
  obtain ⟨hx, hb, -⟩ := hq
  exact fun hX H locs la hH hS hla => lv_land hx hb hd (kk hX H locs la hH hS hla)
theorem k_lor (hq : e_B q own cc nl fr lo ret nm) {x y : Int64} (hd : decode cc pc = .ok (.lor, 1))  (kk : e_K en q r0 h0 (pc + 1) ls (.long (x ||| y) :: st) h X) : e_K en q r0 h0 pc ls (.long y :: .long x :: st) h X := by
  obtain ⟨p, l, e, R, s, m, args, below, meth, c, G, B0, nn, nL⟩ := q
  obtain ⟨hx, hb, -⟩ := hq
  exact fun hX H locs la hH hS hla => lv_lor hx hb hd (kk hX H locs la hH hS hla)
theorem k_lxor (hq : e_B q own cc nl fr lo ret nm) {x y : Int64} (hd : decode cc pc = .ok (.lxor, 1))  (kk : e_K en q r0 h0 (pc + 1) ls (.long (x ^^^ y) :: st) h X) : e_K en q r0 h0 pc ls (.long y :: .long x :: st) h X := by
  obtain ⟨p, l, e, R, s, m, args, below, meth, c, G, B0, nn, nL⟩ := q
  obtain ⟨hx, hb, -⟩ := hq
  exact fun hX H locs la hH hS hla => lv_lxor hx hb hd (kk hX H locs la hH hS hla)
theorem k_ineg (hq : e_B q own cc nl fr lo ret nm) {x : Int32} (hd : decode cc pc = .ok (.ineg, 1))  (kk : e_K en q r0 h0 (pc + 1) ls (.int (-x) :: st) h X) : e_K en q r0 h0 pc ls (.int x :: st) h X := by
  obtain ⟨p, l, e, R, s, m, args, below, meth, c, G, B0, nn, nL⟩ := q
  obtain ⟨hx, hb, -⟩ := hq
  exact fun hX H locs la hH hS hla => lv_ineg hx hb hd (kk hX H locs la hH hS hla)
theorem k_lneg (hq : e_B q own cc nl fr lo ret nm) {x : Int64} (hd : decode cc pc = .ok (.lneg, 1))  (kk : e_K en q r0 h0 (pc + 1) ls (.long (-x) :: st) h X) : e_K en q r0 h0 pc ls (.long x :: st) h X := by
  obtain ⟨p, l, e, R, s, m, args, below, meth, c, G, B0, nn, nL⟩ := q
  obtain ⟨hx, hb, -⟩ := hq
  exact fun hX H locs la hH hS hla => lv_lneg hx hb hd (kk hX H locs la hH hS hla)
theorem k_ishl (hq : e_B q own cc nl fr lo ret nm) {x y : Int32} (hd : decode cc pc = .ok (.ishl, 1))  (kk : e_K en q r0 h0 (pc + 1) ls (.int (x <<< (y &&& 31)) :: st) h X) : e_K en q r0 h0 pc ls (.int y :: .int x :: st) h X := by
  obtain ⟨p, l, e, R, s, m, args, below, meth, c, G, B0, nn, nL⟩ := q
  obtain ⟨hx, hb, -⟩ := hq
  exact fun hX H locs la hH hS hla => lv_ishl hx hb hd (kk hX H locs la hH hS hla)
theorem k_ishr (hq : e_B q own cc nl fr lo ret nm) {x y : Int32} (hd : decode cc pc = .ok (.ishr, 1))  (kk : e_K en q r0 h0 (pc + 1) ls (.int (x >>> (y &&& 31)) :: st) h X) : e_K en q r0 h0 pc ls (.int y :: .int x :: st) h X := by
  obtain ⟨p, l, e, R, s, m, args, below, meth, c, G, B0, nn, nL⟩ := q
  obtain ⟨hx, hb, -⟩ := hq
  exact fun hX H locs la hH hS hla => lv_ishr hx hb hd (kk hX H locs la hH hS hla)
theorem k_iushr (hq : e_B q own cc nl fr lo ret nm) {x y : Int32} (hd : decode cc pc = .ok (.iushr, 1))  (kk : e_K en q r0 h0 (pc + 1) ls (.int ((x.toUInt32 >>> (y.toUInt32 &&& Int32.toUInt32 31)).toInt32) :: st) h X) : e_K en q r0 h0 pc ls (.int y :: .int x :: st) h X := by
  obtain ⟨p, l, e, R, s, m, args, below, meth, c, G, B0, nn, nL⟩ := q
  obtain ⟨hx, hb, -⟩ := hq
  exact fun hX H locs la hH hS hla => lv_iushr hx hb hd rfl (kk hX H locs la hH hS hla)
theorem k_lushr (hq : e_B q own cc nl fr lo ret nm) {x : Int64} {y : Int32} (hd : decode cc pc = .ok (.lushr, 1))  (kk : e_K en q r0 h0 (pc + 1) ls (.long ((x.toUInt64 >>> (y.toInt64.toUInt64 &&& Int64.toUInt64 63)).toInt64) :: st) h X) : e_K en q r0 h0 pc ls (.int y :: .long x :: st) h X := by
  obtain ⟨p, l, e, R, s, m, args, below, meth, c, G, B0, nn, nL⟩ := q
  obtain ⟨hx, hb, -⟩ := hq
  exact fun hX H locs la hH hS hla => lv_lushr hx hb hd rfl (kk hX H locs la hH hS hla)
theorem k_lshl (hq : e_B q own cc nl fr lo ret nm) {x : Int64} {y : Int32} (hd : decode cc pc = .ok (.lshl, 1))  (kk : e_K en q r0 h0 (pc + 1) ls (.long (x <<< (y.toInt64 &&& 63)) :: st) h X) : e_K en q r0 h0 pc ls (.int y :: .long x :: st) h X := by
  obtain ⟨p, l, e, R, s, m, args, below, meth, c, G, B0, nn, nL⟩ := q
  obtain ⟨hx, hb, -⟩ := hq
  exact fun hX H locs la hH hS hla => lv_lshl hx hb hd rfl (kk hX H locs la hH hS hla)
theorem k_lshr (hq : e_B q own cc nl fr lo ret nm) {x : Int64} {y : Int32} (hd : decode cc pc = .ok (.lshr, 1))  (kk : e_K en q r0 h0 (pc + 1) ls (.long (x >>> (y.toInt64 &&& 63)) :: st) h X) : e_K en q r0 h0 pc ls (.int y :: .long x :: st) h X := by
  obtain ⟨p, l, e, R, s, m, args, below, meth, c, G, B0, nn, nL⟩ := q
  obtain ⟨hx, hb, -⟩ := hq
  exact fun hX H locs la hH hS hla => lv_lshr hx hb hd rfl (kk hX H locs la hH hS hla)
theorem k_i2l (hq : e_B q own cc nl fr lo ret nm) {x : Int32} (hd : decode cc pc = .ok (.i2l, 1))  (kk : e_K en q r0 h0 (pc + 1) ls (.long x.toInt64 :: st) h X) : e_K en q r0 h0 pc ls (.int x :: st) h X := by
  obtain ⟨p, l, e, R, s, m, args, below, meth, c, G, B0, nn, nL⟩ := q
  obtain ⟨hx, hb, -⟩ := hq
  exact fun hX H locs la hH hS hla => lv_i2l hx hb hd rfl (kk hX H locs la hH hS hla)
theorem k_l2i (hq : e_B q own cc nl fr lo ret nm) {x : Int64} (hd : decode cc pc = .ok (.l2i, 1))  (kk : e_K en q r0 h0 (pc + 1) ls (.int x.toInt32 :: st) h X) : e_K en q r0 h0 pc ls (.long x :: st) h X := by
  obtain ⟨p, l, e, R, s, m, args, below, meth, c, G, B0, nn, nL⟩ := q
  obtain ⟨hx, hb, -⟩ := hq
  exact fun hX H locs la hH hS hla => lv_l2i hx hb hd rfl (kk hX H locs la hH hS hla)
theorem k_i2c (hq : e_B q own cc nl fr lo ret nm) {x : Int32} (hd : decode cc pc = .ok (.i2c, 1))  (kk : e_K en q r0 h0 (pc + 1) ls (.int (x.toUInt32 % 65536).toInt32 :: st) h X) : e_K en q r0 h0 pc ls (.int x :: st) h X := by
  obtain ⟨p, l, e, R, s, m, args, below, meth, c, G, B0, nn, nL⟩ := q
  obtain ⟨hx, hb, -⟩ := hq
  exact fun hX H locs la hH hS hla => lv_i2c hx hb hd rfl (kk hX H locs la hH hS hla)
theorem k_lcmp (hq : e_B q own cc nl fr lo ret nm) {x y : Int64} (hd : decode cc pc = .ok (.lcmp, 1))  (kk : e_K en q r0 h0 (pc + 1) ls (.int (lg_cmp x y) :: st) h X) : e_K en q r0 h0 pc ls (.long y :: .long x :: st) h X := by
  obtain ⟨p, l, e, R, s, m, args, below, meth, c, G, B0, nn, nL⟩ := q
  obtain ⟨hx, hb, -⟩ := hq
  exact fun hX H locs la hH hS hla => W.lcmp hx hb hd (kk hX H locs la hH hS hla)
theorem k_iconst (hq : e_B q own cc nl fr lo ret nm) {n : Int} {v : Int32} (hd : decode cc pc = .ok (.iconst n, 1)) (hv : Int32.ofInt n = v) (kk : e_K en q r0 h0 (pc + 1) ls (.int v :: st) h X) : e_K en q r0 h0 pc ls (st) h X := by
  obtain ⟨p, l, e, R, s, m, args, below, meth, c, G, B0, nn, nL⟩ := q
  obtain ⟨hx, hb, -⟩ := hq
  exact fun hX H locs la hH hS hla => lv_iconst hx hb hd hv (kk hX H locs la hH hS hla)
theorem k_bipush (hq : e_B q own cc nl fr lo ret nm) {n : Int} {v : Int32} (hd : decode cc pc = .ok (.bipush n, 2)) (hv : (Int8.ofInt n).toInt32 = v) (kk : e_K en q r0 h0 (pc + 2) ls (.int v :: st) h X) : e_K en q r0 h0 pc ls (st) h X := by
  obtain ⟨p, l, e, R, s, m, args, below, meth, c, G, B0, nn, nL⟩ := q
  obtain ⟨hx, hb, -⟩ := hq
  exact fun hX H locs la hH hS hla => lv_bipush hx hb hd hv (kk hX H locs la hH hS hla)
theorem k_sipush (hq : e_B q own cc nl fr lo ret nm) {n : Int} {v : Int32} (hd : decode cc pc = .ok (.sipush n, 3)) (hv : (Int16.ofInt n).toInt32 = v) (kk : e_K en q r0 h0 (pc + 3) ls (.int v :: st) h X) : e_K en q r0 h0 pc ls (st) h X := by
  obtain ⟨p, l, e, R, s, m, args, below, meth, c, G, B0, nn, nL⟩ := q
  obtain ⟨hx, hb, -⟩ := hq
  exact fun hX H locs la hH hS hla => lv_sipush hx hb hd hv (kk hX H locs la hH hS hla)
theorem k_lconst (hq : e_B q own cc nl fr lo ret nm) {n : Fin 2} {v : Int64} (hd : decode cc pc = .ok (.lconst n, 1)) (hv : Int64.ofNat (n : Nat) = v) (kk : e_K en q r0 h0 (pc + 1) ls (.long v :: st) h X) : e_K en q r0 h0 pc ls (st) h X := by
  obtain ⟨p, l, e, R, s, m, args, below, meth, c, G, B0, nn, nL⟩ := q
  obtain ⟨hx, hb, -⟩ := hq
  exact fun hX H locs la hH hS hla => lv_lconst hx hb hd hv (kk hX H locs la hH hS hla)
theorem k_aconst_null (hq : e_B q own cc nl fr lo ret nm)  (hd : decode cc pc = .ok (.aconst_null, 1))  (kk : e_K en q r0 h0 (pc + 1) ls (.null :: st) h X) : e_K en q r0 h0 pc ls (st) h X := by
  obtain ⟨p, l, e, R, s, m, args, below, meth, c, G, B0, nn, nL⟩ := q
  obtain ⟨hx, hb, -⟩ := hq
  exact fun hX H locs la hH hS hla => lv_null hx hb hd (kk hX H locs la hH hS hla)
theorem k_dup (hq : e_B q own cc nl fr lo ret nm) {va : Value} (hd : decode cc pc = .ok (.dup, 1)) (hc : va.category = 1) (kk : e_K en q r0 h0 (pc + 1) ls (va :: va :: st) h X) : e_K en q r0 h0 pc ls (va :: st) h X := by
  obtain ⟨p, l, e, R, s, m, args, below, meth, c, G, B0, nn, nL⟩ := q
  obtain ⟨hx, hb, -⟩ := hq
  exact fun hX H locs la hH hS hla => lv_dup hx hb hd hc (kk hX H locs la hH hS hla)
theorem k_pop (hq : e_B q own cc nl fr lo ret nm) {va : Value} (hd : decode cc pc = .ok (.pop, 1)) (hc : va.category = 1) (kk : e_K en q r0 h0 (pc + 1) ls (st) h X) : e_K en q r0 h0 pc ls (va :: st) h X := by
  obtain ⟨p, l, e, R, s, m, args, below, meth, c, G, B0, nn, nL⟩ := q
  obtain ⟨hx, hb, -⟩ := hq
  exact fun hX H locs la hH hS hla => lv_pop hx hb hd hc (kk hX H locs la hH hS hla)
theorem k_dup2_11 (hq : e_B q own cc nl fr lo ret nm) {va vb : Value} (hd : decode cc pc = .ok (.dup2, 1)) (hc : va.category = 1) (hc2 : vb.category = 1) (kk : e_K en q r0 h0 (pc + 1) ls (va :: vb :: va :: vb :: st) h X) : e_K en q r0 h0 pc ls (va :: vb :: st) h X := by
  obtain ⟨p, l, e, R, s, m, args, below, meth, c, G, B0, nn, nL⟩ := q
  obtain ⟨hx, hb, -⟩ := hq
  exact fun hX H locs la hH hS hla => lv_dup2_11 hx hb hd hc hc2 (kk hX H locs la hH hS hla)
theorem k_dup2_2 (hq : e_B q own cc nl fr lo ret nm) {va : Value} (hd : decode cc pc = .ok (.dup2, 1)) (hc : va.category = 2) (kk : e_K en q r0 h0 (pc + 1) ls (va :: va :: st) h X) : e_K en q r0 h0 pc ls (va :: st) h X := by
  obtain ⟨p, l, e, R, s, m, args, below, meth, c, G, B0, nn, nL⟩ := q
  obtain ⟨hx, hb, -⟩ := hq
  exact fun hX H locs la hH hS hla => lv_dup2_2 hx hb hd hc (kk hX H locs la hH hS hla)
theorem k_iload_n (hq : e_B q own cc nl fr lo ret nm) {k : Fin 4} (hd : decode cc pc = .ok (.iload_n k, 1)) (j : Nat) {x : Int32} (hj : ls[j]? = some ((k : Nat), .int x)) (kk : e_K en q r0 h0 (pc + 1) ls (.int x :: st) h X) : e_K en q r0 h0 pc ls st h X := by
  obtain ⟨p, l, e, R, s, m, args, below, meth, c, G, B0, nn, nL⟩ := q
  obtain ⟨hx, hb, -⟩ := hq
  exact fun hX H locs la hH hS hla => lv_iload_n hx hb hd rfl (lv_at hla j hj) (kk hX H locs la hH hS hla)
theorem k_iload (hq : e_B q own cc nl fr lo ret nm) {i : Nat} (hd : decode cc pc = .ok (.iload i, 2)) (j : Nat) {x : Int32} (hj : ls[j]? = some (i, .int x)) (kk : e_K en q r0 h0 (pc + 2) ls (.int x :: st) h X) : e_K en q r0 h0 pc ls st h X := by
  obtain ⟨p, l, e, R, s, m, args, below, meth, c, G, B0, nn, nL⟩ := q
  obtain ⟨hx, hb, -⟩ := hq
  exact fun hX H locs la hH hS hla => lv_iload hx hb hd (lv_at hla j hj) (kk hX H locs la hH hS hla)
theorem k_lload_n (hq : e_B q own cc nl fr lo ret nm) {k : Fin 4} (hd : decode cc pc = .ok (.lload_n k, 1)) (j : Nat) {x : Int64} (hj : ls[j]? = some ((k : Nat), .long x)) (kk : e_K en q r0 h0 (pc + 1) ls (.long x :: st) h X) : e_K en q r0 h0 pc ls st h X := by
  obtain ⟨p, l, e, R, s, m, args, below, meth, c, G, B0, nn, nL⟩ := q
  obtain ⟨hx, hb, -⟩ := hq
  exact fun hX H locs la hH hS hla => lv_lload_n hx hb hd rfl (lv_at hla j hj) (kk hX H locs la hH hS hla)
theorem k_lload (hq : e_B q own cc nl fr lo ret nm) {i : Nat} (hd : decode cc pc = .ok (.lload i, 2)) (j : Nat) {x : Int64} (hj : ls[j]? = some (i, .long x)) (kk : e_K en q r0 h0 (pc + 2) ls (.long x :: st) h X) : e_K en q r0 h0 pc ls st h X := by
  obtain ⟨p, l, e, R, s, m, args, below, meth, c, G, B0, nn, nL⟩ := q
  obtain ⟨hx, hb, -⟩ := hq
  exact fun hX H locs la hH hS hla => lv_lload hx hb hd (lv_at hla j hj) (kk hX H locs la hH hS hla)
theorem k_aload_n (hq : e_B q own cc nl fr lo ret nm) {k : Fin 4} (hd : decode cc pc = .ok (.aload_n k, 1)) (j : Nat) {x : Nat} (hj : ls[j]? = some ((k : Nat), .ref x)) (kk : e_K en q r0 h0 (pc + 1) ls (.ref x :: st) h X) : e_K en q r0 h0 pc ls st h X := by
  obtain ⟨p, l, e, R, s, m, args, below, meth, c, G, B0, nn, nL⟩ := q
  obtain ⟨hx, hb, -⟩ := hq
  exact fun hX H locs la hH hS hla => lv_aload_n hx hb hd rfl (lv_at hla j hj) (kk hX H locs la hH hS hla)
theorem k_aload (hq : e_B q own cc nl fr lo ret nm) {i : Nat} (hd : decode cc pc = .ok (.aload i, 2)) (j : Nat) {x : Nat} (hj : ls[j]? = some (i, .ref x)) (kk : e_K en q r0 h0 (pc + 2) ls (.ref x :: st) h X) : e_K en q r0 h0 pc ls st h X := by
  obtain ⟨p, l, e, R, s, m, args, below, meth, c, G, B0, nn, nL⟩ := q
  obtain ⟨hx, hb, -⟩ := hq
  exact fun hX H locs la hH hS hla => lv_aload hx hb hd (lv_at hla j hj) (kk hX H locs la hH hS hla)
theorem k_qload_n (hq : e_B q own cc nl fr lo ret nm) {k : Fin 4} (hd : decode cc pc = .ok (.aload_n k, 1)) (j : Nat) {x : Option Nat} (hj : ls[j]? = some ((k : Nat), va_rf x)) (kk : e_K en q r0 h0 (pc + 1) ls (va_rf x :: st) h X) : e_K en q r0 h0 pc ls st h X := by
  obtain ⟨p, l, e, R, s, m, args, below, meth, c, G, B0, nn, nL⟩ := q
  obtain ⟨hx, hb, -⟩ := hq
  cases x with
  | none => exact fun hX H locs la hH hS hla => lv_aload_nN hx hb hd rfl (lv_at hla j hj) (kk hX H locs la hH hS hla)
  | some x => exact fun hX H locs la hH hS hla => lv_aload_n hx hb hd rfl (lv_at hla j hj) (kk hX H locs la hH hS hla)
theorem k_qload (hq : e_B q own cc nl fr lo ret nm) {i : Nat} (hd : decode cc pc = .ok (.aload i, 2)) (j : Nat) {x : Option Nat} (hj : ls[j]? = some (i, va_rf x)) (kk : e_K en q r0 h0 (pc + 2) ls (va_rf x :: st) h X) : e_K en q r0 h0 pc ls st h X := by
  obtain ⟨p, l, e, R, s, m, args, below, meth, c, G, B0, nn, nL⟩ := q
  obtain ⟨hx, hb, -⟩ := hq
  cases x with
  | none => exact fun hX H locs la hH hS hla => lv_aloadN hx hb hd (lv_at hla j hj) (kk hX H locs la hH hS hla)
  | some x => exact fun hX H locs la hH hS hla => lv_aload hx hb hd (lv_at hla j hj) (kk hX H locs la hH hS hla)
theorem k_istore_n (hq : e_B q own cc nl fr lo ret nm) {k : Fin 4} {i : Nat} (hd : decode cc pc = .ok (.istore_n k, 1)) (hi : (k : Nat) = i) {x : Int32} {ls' : List (Nat × Value)} (hn : i < nl) (hl : (i, Value.int x) :: ls.filter (fun q => !(q.1 == i) && !(q.1 + 1 == i && q.2.category == 2)) = ls') (kk : e_K en q r0 h0 (pc + 1) ls' st h X) : e_K en q r0 h0 pc ls (Value.int x :: st) h X := by
  obtain ⟨p, l, e, R, s, m, args, below, meth, c, G, B0, nn, nL⟩ := q
  obtain ⟨hx, hb, hml, hnl, -⟩ := hq
  subst hnl
  exact fun hX H locs la hH hS hla => lv_istore_n hx hb hd hi hla hn hl (fun la2 hla2 => kk hX H locs la2 hH hS hla2)
theorem k_istore (hq : e_B q own cc nl fr lo ret nm) {i : Nat} (hd : decode cc pc = .ok (.istore i, 2)) {x : Int32} {ls' : List (Nat × Value)} (hn : i < nl) (hl : (i, Value.int x) :: ls.filter (fun q => !(q.1 == i) && !(q.1 + 1 == i && q.2.category == 2)) = ls') (kk : e_K en q r0 h0 (pc + 2) ls' st h X) : e_K en q r0 h0 pc ls (Value.int x :: st) h X := by
  obtain ⟨p, l, e, R, s, m, args, below, meth, c, G, B0, nn, nL⟩ := q
  obtain ⟨hx, hb, hml, hnl, -⟩ := hq
  subst hnl
  exact fun hX H locs la hH hS hla => lv_istore hx hb hd hla hn hl (fun la2 hla2 => kk hX H locs la2 hH hS hla2)
theorem k_lstore_n (hq : e_B q own cc nl fr lo ret nm) {k : Fin 4} {i : Nat} (hd : decode cc pc = .ok (.lstore_n k, 1)) (hi : (k : Nat) = i) {x : Int64} {ls' : List (Nat × Value)} (hn : i + 1 < nl) (hl : (i, Value.long x) :: ls.filter (fun q => !(q.1 == i) && (!(q.1 == i + 1) && !(q.1 + 1 == i && q.2.category == 2))) = ls') (kk : e_K en q r0 h0 (pc + 1) ls' st h X) : e_K en q r0 h0 pc ls (Value.long x :: st) h X := by
  obtain ⟨p, l, e, R, s, m, args, below, meth, c, G, B0, nn, nL⟩ := q
  obtain ⟨hx, hb, hml, hnl, -⟩ := hq
  subst hnl
  exact fun hX H locs la hH hS hla => lv_lstore_n hx hb hd hi hla hn hl (fun la2 hla2 => kk hX H locs la2 hH hS hla2)
theorem k_lstore (hq : e_B q own cc nl fr lo ret nm) {i : Nat} (hd : decode cc pc = .ok (.lstore i, 2)) {x : Int64} {ls' : List (Nat × Value)} (hn : i + 1 < nl) (hl : (i, Value.long x) :: ls.filter (fun q => !(q.1 == i) && (!(q.1 == i + 1) && !(q.1 + 1 == i && q.2.category == 2))) = ls') (kk : e_K en q r0 h0 (pc + 2) ls' st h X) : e_K en q r0 h0 pc ls (Value.long x :: st) h X := by
  obtain ⟨p, l, e, R, s, m, args, below, meth, c, G, B0, nn, nL⟩ := q
  obtain ⟨hx, hb, hml, hnl, -⟩ := hq
  subst hnl
  exact fun hX H locs la hH hS hla => lv_lstore hx hb hd hla hn hl (fun la2 hla2 => kk hX H locs la2 hH hS hla2)
theorem k_astore_n (hq : e_B q own cc nl fr lo ret nm) {k : Fin 4} {i : Nat} (hd : decode cc pc = .ok (.astore_n k, 1)) (hi : (k : Nat) = i) {x : Nat} {ls' : List (Nat × Value)} (hn : i < nl) (hl : (i, Value.ref x) :: ls.filter (fun q => !(q.1 == i) && !(q.1 + 1 == i && q.2.category == 2)) = ls') (kk : e_K en q r0 h0 (pc + 1) ls' st h X) : e_K en q r0 h0 pc ls (Value.ref x :: st) h X := by
  obtain ⟨p, l, e, R, s, m, args, below, meth, c, G, B0, nn, nL⟩ := q
  obtain ⟨hx, hb, hml, hnl, -⟩ := hq
  subst hnl
  exact fun hX H locs la hH hS hla => lv_astore_n hx hb hd hi hla hn hl (fun la2 hla2 => kk hX H locs la2 hH hS hla2)
theorem k_astore (hq : e_B q own cc nl fr lo ret nm) {i : Nat} (hd : decode cc pc = .ok (.astore i, 2)) {x : Nat} {ls' : List (Nat × Value)} (hn : i < nl) (hl : (i, Value.ref x) :: ls.filter (fun q => !(q.1 == i) && !(q.1 + 1 == i && q.2.category == 2)) = ls') (kk : e_K en q r0 h0 (pc + 2) ls' st h X) : e_K en q r0 h0 pc ls (Value.ref x :: st) h X := by
  obtain ⟨p, l, e, R, s, m, args, below, meth, c, G, B0, nn, nL⟩ := q
  obtain ⟨hx, hb, hml, hnl, -⟩ := hq
  subst hnl
  exact fun hX H locs la hH hS hla => lv_astore hx hb hd hla hn hl (fun la2 hla2 => kk hX H locs la2 hH hS hla2)
theorem k_qstore_n (hq : e_B q own cc nl fr lo ret nm) {k : Fin 4} {i : Nat} (hd : decode cc pc = .ok (.astore_n k, 1)) (hi : (k : Nat) = i) {x : Option Nat} {ls' : List (Nat × Value)} (hn : i < nl) (hl : (i, va_rf x) :: ls.filter (fun q => !(q.1 == i) && !(q.1 + 1 == i && q.2.category == 2)) = ls') (kk : e_K en q r0 h0 (pc + 1) ls' st h X) : e_K en q r0 h0 pc ls (va_rf x :: st) h X := by
  obtain ⟨p, l, e, R, s, m, args, below, meth, c, G, B0, nn, nL⟩ := q
  obtain ⟨hx, hb, hml, hnl, -⟩ := hq
  subst hnl
  cases x with
  | none => exact fun hX H locs la hH hS hla => lv_astore_nN hx hb hd hi hla hn hl (fun la2 hla2 => kk hX H locs la2 hH hS hla2)
  | some x => exact fun hX H locs la hH hS hla => lv_astore_n hx hb hd hi hla hn hl (fun la2 hla2 => kk hX H locs la2 hH hS hla2)
theorem k_qstore (hq : e_B q own cc nl fr lo ret nm) {i : Nat} (hd : decode cc pc = .ok (.astore i, 2)) {x : Option Nat} {ls' : List (Nat × Value)} (hn : i < nl) (hl : (i, va_rf x) :: ls.filter (fun q => !(q.1 == i) && !(q.1 + 1 == i && q.2.category == 2)) = ls') (kk : e_K en q r0 h0 (pc + 2) ls' st h X) : e_K en q r0 h0 pc ls (va_rf x :: st) h X := by
  obtain ⟨p, l, e, R, s, m, args, below, meth, c, G, B0, nn, nL⟩ := q
  obtain ⟨hx, hb, hml, hnl, -⟩ := hq
  subst hnl
  cases x with
  | none => exact fun hX H locs la hH hS hla => lv_astoreN hx hb hd hla hn hl (fun la2 hla2 => kk hX H locs la2 hH hS hla2)
  | some x => exact fun hX H locs la hH hS hla => lv_astore hx hb hd hla hn hl (fun la2 hla2 => kk hX H locs la2 hH hS hla2)
theorem k_iinc (hq : e_B q own cc nl fr lo ret nm) {i : Nat} {n : Int} (hd : decode cc pc = .ok (.iinc i n, 3)) (j : Nat) {x v : Int32} {ls' : List (Nat × Value)} (hj : ls[j]? = some (i, .int x)) (hv : x + Int32.ofInt n = v) (hn : i < nl) (hl : (i, Value.int v) :: ls.filter (fun q => !(q.1 == i) && !(q.1 + 1 == i && q.2.category == 2)) = ls') (kk : e_K en q r0 h0 (pc + 3) ls' st h X) : e_K en q r0 h0 pc ls st h X := by
  obtain ⟨p, l, e, R, s, m, args, below, meth, c, G, B0, nn, nL⟩ := q
  obtain ⟨hx, hb, hml, hnl, -⟩ := hq
  subst hnl
  exact fun hX H locs la hH hS hla => lv_iinc hx hb hd hla hj hv hn hl (fun la2 hla2 => kk hX H locs la2 hH hS hla2)
theorem k_icmp_eq (hq : e_B q own cc nl fr lo ret nm) {x y : Int32} {off : Int} {tgt : Nat} {dc : Decidable (x = y)} (hd : decode cc pc = .ok (.if_icmp .eq off, 3)) (ht : (pc : Int) + off = (tgt : Int)) (k1 : x = y → e_K en q r0 h0 tgt ls st h X1) (k2 : ¬ (x = y) → e_K en q r0 h0 (pc + 3) ls st h X2) : e_K en q r0 h0 pc ls (.int y :: .int x :: st) h (@ite _ (x = y) dc X1 X2) := by
  by_cases hc : x = y
  · rw [if_pos hc]
    have kk := k1 hc
    clear k1 k2
    obtain ⟨p, l, e, R, s, m, args, below, meth, c, G, B0, nn, nL⟩ := q
    obtain ⟨hx, hb, -⟩ := hq
    exact fun hX H locs la hH hS hla => lv_icmp_eq hx hb hd ht (fun _ => kk hX H locs la hH hS hla) (fun z => absurd hc z)
  · rw [if_neg hc]
    have kk := k2 hc
    clear k1 k2
    obtain ⟨p, l, e, R, s, m, args, below, meth, c, G, B0, nn, nL⟩ := q
    obtain ⟨hx, hb, -⟩ := hq
    exact fun hX H locs la hH hS hla => lv_icmp_eq hx hb hd ht (fun z => absurd z hc) (fun _ => kk hX H locs la hH hS hla)
theorem k_if_eq (hq : e_B q own cc nl fr lo ret nm) {x : Int32} {off : Int} {tgt : Nat} {dc : Decidable (x = 0)} (hd : decode cc pc = .ok (.ifCond .eq off, 3)) (ht : (pc : Int) + off = (tgt : Int)) (k1 : x = 0 → e_K en q r0 h0 tgt ls st h X1) (k2 : ¬ (x = 0) → e_K en q r0 h0 (pc + 3) ls st h X2) : e_K en q r0 h0 pc ls (.int x :: st) h (@ite _ (x = 0) dc X1 X2) := by
  by_cases hc : x = 0
  · rw [if_pos hc]
    have kk := k1 hc
    clear k1 k2
    obtain ⟨p, l, e, R, s, m, args, below, meth, c, G, B0, nn, nL⟩ := q
    obtain ⟨hx, hb, -⟩ := hq
    exact fun hX H locs la hH hS hla => lv_if_eq hx hb hd ht (fun _ => kk hX H locs la hH hS hla) (fun z => absurd hc z)
  · rw [if_neg hc]
    have kk := k2 hc
    clear k1 k2
    obtain ⟨p, l, e, R, s, m, args, below, meth, c, G, B0, nn, nL⟩ := q
    obtain ⟨hx, hb, -⟩ := hq
    exact fun hX H locs la hH hS hla => lv_if_eq hx hb hd ht (fun z => absurd z hc) (fun _ => kk hX H locs la hH hS hla)
theorem k_icmp_ne (hq : e_B q own cc nl fr lo ret nm) {x y : Int32} {off : Int} {tgt : Nat} {dc : Decidable (x = y)} (hd : decode cc pc = .ok (.if_icmp .ne off, 3)) (ht : (pc : Int) + off = (tgt : Int)) (k1 : x = y → e_K en q r0 h0 (pc + 3) ls st h X1) (k2 : ¬ (x = y) → e_K en q r0 h0 tgt ls st h X2) : e_K en q r0 h0 pc ls (.int y :: .int x :: st) h (@ite _ (x = y) dc X1 X2) := by
  by_cases hc : x = y
  · rw [if_pos hc]
    have kk := k1 hc
    clear k1 k2
    obtain ⟨p, l, e, R, s, m, args, below, meth, c, G, B0, nn, nL⟩ := q
    obtain ⟨hx, hb, -⟩ := hq
    exact fun hX H locs la hH hS hla => lv_icmp_ne hx hb hd ht (fun z => absurd hc z) (fun _ => kk hX H locs la hH hS hla)
  · rw [if_neg hc]
    have kk := k2 hc
    clear k1 k2
    obtain ⟨p, l, e, R, s, m, args, below, meth, c, G, B0, nn, nL⟩ := q
    obtain ⟨hx, hb, -⟩ := hq
    exact fun hX H locs la hH hS hla => lv_icmp_ne hx hb hd ht (fun _ => kk hX H locs la hH hS hla) (fun z => absurd z hc)
theorem k_if_ne (hq : e_B q own cc nl fr lo ret nm) {x : Int32} {off : Int} {tgt : Nat} {dc : Decidable (x = 0)} (hd : decode cc pc = .ok (.ifCond .ne off, 3)) (ht : (pc : Int) + off = (tgt : Int)) (k1 : x = 0 → e_K en q r0 h0 (pc + 3) ls st h X1) (k2 : ¬ (x = 0) → e_K en q r0 h0 tgt ls st h X2) : e_K en q r0 h0 pc ls (.int x :: st) h (@ite _ (x = 0) dc X1 X2) := by
  by_cases hc : x = 0
  · rw [if_pos hc]
    have kk := k1 hc
    clear k1 k2
    obtain ⟨p, l, e, R, s, m, args, below, meth, c, G, B0, nn, nL⟩ := q
    obtain ⟨hx, hb, -⟩ := hq
    exact fun hX H locs la hH hS hla => lv_if_ne hx hb hd ht (fun z => absurd hc z) (fun _ => kk hX H locs la hH hS hla)
  · rw [if_neg hc]
    have kk := k2 hc
    clear k1 k2
    obtain ⟨p, l, e, R, s, m, args, below, meth, c, G, B0, nn, nL⟩ := q
    obtain ⟨hx, hb, -⟩ := hq
    exact fun hX H locs la hH hS hla => lv_if_ne hx hb hd ht (fun _ => kk hX H locs la hH hS hla) (fun z => absurd z hc)
theorem k_icmp_lt (hq : e_B q own cc nl fr lo ret nm) {x y : Int32} {off : Int} {tgt : Nat} {dc : Decidable (x < y)} (hd : decode cc pc = .ok (.if_icmp .lt off, 3)) (ht : (pc : Int) + off = (tgt : Int)) (k1 : x < y → e_K en q r0 h0 tgt ls st h X1) (k2 : ¬ (x < y) → e_K en q r0 h0 (pc + 3) ls st h X2) : e_K en q r0 h0 pc ls (.int y :: .int x :: st) h (@ite _ (x < y) dc X1 X2) := by
  by_cases hc : x < y
  · rw [if_pos hc]
    have kk := k1 hc
    clear k1 k2
    obtain ⟨p, l, e, R, s, m, args, below, meth, c, G, B0, nn, nL⟩ := q
    obtain ⟨hx, hb, -⟩ := hq
    exact fun hX H locs la hH hS hla => lv_icmp_lt hx hb hd ht (fun _ => kk hX H locs la hH hS hla) (fun z => absurd hc z)
  · rw [if_neg hc]
    have kk := k2 hc
    clear k1 k2
    obtain ⟨p, l, e, R, s, m, args, below, meth, c, G, B0, nn, nL⟩ := q
    obtain ⟨hx, hb, -⟩ := hq
    exact fun hX H locs la hH hS hla => lv_icmp_lt hx hb hd ht (fun z => absurd z hc) (fun _ => kk hX H locs la hH hS hla)
theorem k_if_lt (hq : e_B q own cc nl fr lo ret nm) {x : Int32} {off : Int} {tgt : Nat} {dc : Decidable (x < 0)} (hd : decode cc pc = .ok (.ifCond .lt off, 3)) (ht : (pc : Int) + off = (tgt : Int)) (k1 : x < 0 → e_K en q r0 h0 tgt ls st h X1) (k2 : ¬ (x < 0) → e_K en q r0 h0 (pc + 3) ls st h X2) : e_K en q r0 h0 pc ls (.int x :: st) h (@ite _ (x < 0) dc X1 X2) := by
  by_cases hc : x < 0
  · rw [if_pos hc]
    have kk := k1 hc
    clear k1 k2
    obtain ⟨p, l, e, R, s, m, args, below, meth, c, G, B0, nn, nL⟩ := q
    obtain ⟨hx, hb, -⟩ := hq
    exact fun hX H locs la hH hS hla => lv_if_lt hx hb hd ht (fun _ => kk hX H locs la hH hS hla) (fun z => absurd hc z)
  · rw [if_neg hc]
    have kk := k2 hc
    clear k1 k2
    obtain ⟨p, l, e, R, s, m, args, below, meth, c, G, B0, nn, nL⟩ := q
    obtain ⟨hx, hb, -⟩ := hq
    exact fun hX H locs la hH hS hla => lv_if_lt hx hb hd ht (fun z => absurd z hc) (fun _ => kk hX H locs la hH hS hla)
theorem k_icmp_ge (hq : e_B q own cc nl fr lo ret nm) {x y : Int32} {off : Int} {tgt : Nat} {dc : Decidable (y ≤ x)} (hd : decode cc pc = .ok (.if_icmp .ge off, 3)) (ht : (pc : Int) + off = (tgt : Int)) (k1 : y ≤ x → e_K en q r0 h0 tgt ls st h X1) (k2 : ¬ (y ≤ x) → e_K en q r0 h0 (pc + 3) ls st h X2) : e_K en q r0 h0 pc ls (.int y :: .int x :: st) h (@ite _ (y ≤ x) dc X1 X2) := by
  by_cases hc : y ≤ x
  · rw [if_pos hc]
    have kk := k1 hc
    clear k1 k2
    obtain ⟨p, l, e, R, s, m, args, below, meth, c, G, B0, nn, nL⟩ := q
    obtain ⟨hx, hb, -⟩ := hq
    exact fun hX H locs la hH hS hla => lv_icmp_ge hx hb hd ht (fun _ => kk hX H locs la hH hS hla) (fun z => absurd hc z)
  · rw [if_neg hc]
    have kk := k2 hc
    clear k1 k2
    obtain ⟨p, l, e, R, s, m, args, below, meth, c, G, B0, nn, nL⟩ := q
    obtain ⟨hx, hb, -⟩ := hq
    exact fun hX H locs la hH hS hla => lv_icmp_ge hx hb hd ht (fun z => absurd z hc) (fun _ => kk hX H locs la hH hS hla)
theorem k_if_ge (hq : e_B q own cc nl fr lo ret nm) {x : Int32} {off : Int} {tgt : Nat} {dc : Decidable (0 ≤ x)} (hd : decode cc pc = .ok (.ifCond .ge off, 3)) (ht : (pc : Int) + off = (tgt : Int)) (k1 : 0 ≤ x → e_K en q r0 h0 tgt ls st h X1) (k2 : ¬ (0 ≤ x) → e_K en q r0 h0 (pc + 3) ls st h X2) : e_K en q r0 h0 pc ls (.int x :: st) h (@ite _ (0 ≤ x) dc X1 X2) := by
  by_cases hc : 0 ≤ x
  · rw [if_pos hc]
    have kk := k1 hc
    clear k1 k2
    obtain ⟨p, l, e, R, s, m, args, below, meth, c, G, B0, nn, nL⟩ := q
    obtain ⟨hx, hb, -⟩ := hq
    exact fun hX H locs la hH hS hla => lv_if_ge hx hb hd ht (fun _ => kk hX H locs la hH hS hla) (fun z => absurd hc z)
  · rw [if_neg hc]
    have kk := k2 hc
    clear k1 k2
    obtain ⟨p, l, e, R, s, m, args, below, meth, c, G, B0, nn, nL⟩ := q
    obtain ⟨hx, hb, -⟩ := hq
    exact fun hX H locs la hH hS hla => lv_if_ge hx hb hd ht (fun z => absurd z hc) (fun _ => kk hX H locs la hH hS hla)
theorem k_icmp_gt (hq : e_B q own cc nl fr lo ret nm) {x y : Int32} {off : Int} {tgt : Nat} {dc : Decidable (y < x)} (hd : decode cc pc = .ok (.if_icmp .gt off, 3)) (ht : (pc : Int) + off = (tgt : Int)) (k1 : y < x → e_K en q r0 h0 tgt ls st h X1) (k2 : ¬ (y < x) → e_K en q r0 h0 (pc + 3) ls st h X2) : e_K en q r0 h0 pc ls (.int y :: .int x :: st) h (@ite _ (y < x) dc X1 X2) := by
  by_cases hc : y < x
  · rw [if_pos hc]
    have kk := k1 hc
    clear k1 k2
    obtain ⟨p, l, e, R, s, m, args, below, meth, c, G, B0, nn, nL⟩ := q
    obtain ⟨hx, hb, -⟩ := hq
    exact fun hX H locs la hH hS hla => lv_icmp_gt hx hb hd ht (fun _ => kk hX H locs la hH hS hla) (fun z => absurd hc z)
  · rw [if_neg hc]
    have kk := k2 hc
    clear k1 k2
    obtain ⟨p, l, e, R, s, m, args, below, meth, c, G, B0, nn, nL⟩ := q
    obtain ⟨hx, hb, -⟩ := hq
    exact fun hX H locs la hH hS hla => lv_icmp_gt hx hb hd ht (fun z => absurd z hc) (fun _ => kk hX H locs la hH hS hla)
theorem k_if_gt (hq : e_B q own cc nl fr lo ret nm) {x : Int32} {off : Int} {tgt : Nat} {dc : Decidable (0 < x)} (hd : decode cc pc = .ok (.ifCond .gt off, 3)) (ht : (pc : Int) + off = (tgt : Int)) (k1 : 0 < x → e_K en q r0 h0 tgt ls st h X1) (k2 : ¬ (0 < x) → e_K en q r0 h0 (pc + 3) ls st h X2) : e_K en q r0 h0 pc ls (.int x :: st) h (@ite _ (0 < x) dc X1 X2) := by
  by_cases hc : 0 < x
  · rw [if_pos hc]
    have kk := k1 hc
    clear k1 k2
    obtain ⟨p, l, e, R, s, m, args, below, meth, c, G, B0, nn, nL⟩ := q
    obtain ⟨hx, hb, -⟩ := hq
    exact fun hX H locs la hH hS hla => lv_if_gt hx hb hd ht (fun _ => kk hX H locs la hH hS hla) (fun z => absurd hc z)
  · rw [if_neg hc]
    have kk := k2 hc
    clear k1 k2
    obtain ⟨p, l, e, R, s, m, args, below, meth, c, G, B0, nn, nL⟩ := q
    obtain ⟨hx, hb, -⟩ := hq
    exact fun hX H locs la hH hS hla => lv_if_gt hx hb hd ht (fun z => absurd z hc) (fun _ => kk hX H locs la hH hS hla)
theorem k_icmp_le (hq : e_B q own cc nl fr lo ret nm) {x y : Int32} {off : Int} {tgt : Nat} {dc : Decidable (x ≤ y)} (hd : decode cc pc = .ok (.if_icmp .le off, 3)) (ht : (pc : Int) + off = (tgt : Int)) (k1 : x ≤ y → e_K en q r0 h0 tgt ls st h X1) (k2 : ¬ (x ≤ y) → e_K en q r0 h0 (pc + 3) ls st h X2) : e_K en q r0 h0 pc ls (.int y :: .int x :: st) h (@ite _ (x ≤ y) dc X1 X2) := by
  by_cases hc : x ≤ y
  · rw [if_pos hc]
    have kk := k1 hc
    clear k1 k2
    obtain ⟨p, l, e, R, s, m, args, below, meth, c, G, B0, nn, nL⟩ := q
    obtain ⟨hx, hb, -⟩ := hq
    exact fun hX H locs la hH hS hla => lv_icmp_le hx hb hd ht (fun _ => kk hX H locs la hH hS hla) (fun z => absurd hc z)
  · rw [if_neg hc]
    have kk := k2 hc
    clear k1 k2
    obtain ⟨p, l, e, R, s, m, args, below, meth, c, G, B0, nn, nL⟩ := q
    obtain ⟨hx, hb, -⟩ := hq
    exact fun hX H locs la hH hS hla => lv_icmp_le hx hb hd ht (fun z => absurd z hc) (fun _ => kk hX H locs la hH hS hla)
theorem k_if_le (hq : e_B q own cc nl fr lo ret nm) {x : Int32} {off : Int} {tgt : Nat} {dc : Decidable (x ≤ 0)} (hd : decode cc pc = .ok (.ifCond .le off, 3)) (ht : (pc : Int) + off = (tgt : Int)) (k1 : x ≤ 0 → e_K en q r0 h0 tgt ls st h X1) (k2 : ¬ (x ≤ 0) → e_K en q r0 h0 (pc + 3) ls st h X2) : e_K en q r0 h0 pc ls (.int x :: st) h (@ite _ (x ≤ 0) dc X1 X2) := by
  by_cases hc : x ≤ 0
  · rw [if_pos hc]
    have kk := k1 hc
    clear k1 k2
    obtain ⟨p, l, e, R, s, m, args, below, meth, c, G, B0, nn, nL⟩ := q
    obtain ⟨hx, hb, -⟩ := hq
    exact fun hX H locs la hH hS hla => lv_if_le hx hb hd ht (fun _ => kk hX H locs la hH hS hla) (fun z => absurd hc z)
  · rw [if_neg hc]
    have kk := k2 hc
    clear k1 k2
    obtain ⟨p, l, e, R, s, m, args, below, meth, c, G, B0, nn, nL⟩ := q
    obtain ⟨hx, hb, -⟩ := hq
    exact fun hX H locs la hH hS hla => lv_if_le hx hb hd ht (fun z => absurd z hc) (fun _ => kk hX H locs la hH hS hla)
theorem k_goto (hq : e_B q own cc nl fr lo ret nm) {off : Int} {tgt : Nat} (hd : decode cc pc = .ok (.goto off, 3)) (ht : (pc : Int) + off = (tgt : Int)) (kk : e_K en q r0 h0 tgt ls st h X) : e_K en q r0 h0 pc ls st h X := by
  obtain ⟨p, l, e, R, s, m, args, below, meth, c, G, B0, nn, nL⟩ := q
  obtain ⟨hx, hb, -⟩ := hq
  exact fun hX H locs la hH hS hla => lv_goto hx hb hd ht (kk hX H locs la hH hS hla)
theorem k_ifnull (hq : e_B q own cc nl fr lo ret nm) {off : Int} {tgt : Nat} {r : Option Nat} {f : Nat → Option (ρ × eH)} (hd : decode cc pc = .ok (.ifnull off, 3)) (ht : (pc : Int) + off = (tgt : Int)) (k1 : r = none → e_K en q r0 h0 tgt ls st h X1) (k2 : ∀ a, r = some a → e_K en q r0 h0 (pc + 3) ls st h (f a)) : e_K en q r0 h0 pc ls (va_rf r :: st) h (r.elim X1 f) := by
  cases r with
  | none =>
    have kk := k1 rfl
    clear k1 k2
    obtain ⟨p, l, e, R, s, m, args, below, meth, c, G, B0, nn, nL⟩ := q
    obtain ⟨hx, hb, -⟩ := hq
    exact fun hX H locs la hH hS hla => lv_ifnullN hx hb hd ht (kk hX H locs la hH hS hla)
  | some a =>
    have kk := k2 a rfl
    clear k1 k2
    obtain ⟨p, l, e, R, s, m, args, below, meth, c, G, B0, nn, nL⟩ := q
    obtain ⟨hx, hb, -⟩ := hq
    exact fun hX H locs la hH hS hla => lv_ifnull hx hb hd (kk hX H locs la hH hS hla)
theorem k_ifnonnull (hq : e_B q own cc nl fr lo ret nm) {off : Int} {tgt : Nat} {r : Option Nat} {f : Nat → Option (ρ × eH)} (hd : decode cc pc = .ok (.ifnonnull off, 3)) (ht : (pc : Int) + off = (tgt : Int)) (k1 : r = none → e_K en q r0 h0 (pc + 3) ls st h X1) (k2 : ∀ a, r = some a → e_K en q r0 h0 tgt ls st h (f a)) : e_K en q r0 h0 pc ls (va_rf r :: st) h (r.elim X1 f) := by
  cases r with
  | none =>
    have kk := k1 rfl
    clear k1 k2
    obtain ⟨p, l, e, R, s, m, args, below, meth, c, G, B0, nn, nL⟩ := q
    obtain ⟨hx, hb, -⟩ := hq
    exact fun hX H locs la hH hS hla => lv_ifnonnullN hx hb hd (kk hX H locs la hH hS hla)
  | some a =>
    have kk := k2 a rfl
    clear k1 k2
    obtain ⟨p, l, e, R, s, m, args, below, meth, c, G, B0, nn, nL⟩ := q
    obtain ⟨hx, hb, -⟩ := hq
    exact fun hX H locs la hH hS hla => lv_ifnonnull hx hb hd ht (kk hX H locs la hH hS hla)
theorem k_tableOut (hq : e_B q own cc nl fr lo ret nm) {dflt lo1 hi : Int} {offs : Array Int} {len tgt : Nat} {x : Int32} (hd : decode cc pc = .ok (.tableswitch dflt lo1 hi offs, len)) (hh : x.toInt < lo1 ∨ hi < x.toInt) (ht : (pc : Int) + dflt = (tgt : Int)) (kk : e_K en q r0 h0 tgt ls st h X) : e_K en q r0 h0 pc ls (.int x :: st) h X := by
  obtain ⟨p, l, e, R, s, m, args, below, meth, c, G, B0, nn, nL⟩ := q
  obtain ⟨hx, hb, -⟩ := hq
  exact fun hX H locs la hH hS hla => lv_tableOut hx hb hd hh ht (kk hX H locs la hH hS hla)
theorem k_tableIn (hq : e_B q own cc nl fr lo ret nm) {dflt lo1 hi : Int} {offs : Array Int} {len tgt : Nat} {x : Int32} {off : Int} (hd : decode cc pc = .ok (.tableswitch dflt lo1 hi offs, len)) (g1 : ¬ x.toInt < lo1) (g2 : ¬ hi < x.toInt) (ho : offs[(x.toInt - lo1).toNat]? = some off) (ht : (pc : Int) + off = (tgt : Int)) (kk : e_K en q r0 h0 tgt ls st h X) : e_K en q r0 h0 pc ls (.int x :: st) h X := by
  obtain ⟨p, l, e, R, s, m, args, below, meth, c, G, B0, nn, nL⟩ := q
  obtain ⟨hx, hb, -⟩ := hq
  exact fun hX H locs la hH hS hla => lv_tableIn hx hb hd g1 g2 ho ht (kk hX H locs la hH hS hla)
theorem k_idiv (hq : e_B q own cc nl fr lo ret nm) {x y : Int32} (hd : decode cc pc = .ok (.idiv, 1)) (kk : ¬ y = 0 → e_K en q r0 h0 (pc + 1) ls (.int (x / y) :: st) h X) : e_K en q r0 h0 pc ls (.int y :: .int x :: st) h (if y = 0 then none else X) := by
  by_cases hy : y = 0
  · rw [if_pos hy]; exact k_none rfl
  · rw [if_neg hy]
    have kk := kk hy
    obtain ⟨p, l, e, R, s, m, args, below, meth, c, G, B0, nn, nL⟩ := q
    obtain ⟨hx, hb, -⟩ := hq
    exact fun hX H locs la hH hS hla => lv_idiv hx hb hd hy (kk hX H locs la hH hS hla)
theorem k_irem (hq : e_B q own cc nl fr lo ret nm) {x y : Int32} (hd : decode cc pc = .ok (.irem, 1)) (kk : ¬ y = 0 → e_K en q r0 h0 (pc + 1) ls (.int (x - x / y * y) :: st) h X) : e_K en q r0 h0 pc ls (.int y :: .int x :: st) h (if y = 0 then none else X) := by
  by_cases hy : y = 0
  · rw [if_pos hy]; exact k_none rfl
  · rw [if_neg hy]
    have kk := kk hy
    obtain ⟨p, l, e, R, s, m, args, below, meth, c, G, B0, nn, nL⟩ := q
    obtain ⟨hx, hb, -⟩ := hq
    exact fun hX H locs la hH hS hla => lv_irem hx hb hd hy (kk hX H locs la hH hS hla)
theorem k_ldiv (hq : e_B q own cc nl fr lo ret nm) {x y : Int64} (hd : decode cc pc = .ok (.ldiv, 1)) (kk : ¬ y = 0 → e_K en q r0 h0 (pc + 1) ls (.long (x / y) :: st) h X) : e_K en q r0 h0 pc ls (.long y :: .long x :: st) h (if y = 0 then none else X) := by
  by_cases hy : y = 0
  · rw [if_pos hy]; exact k_none rfl
  · rw [if_neg hy]
    have kk := kk hy
    obtain ⟨p, l, e, R, s, m, args, below, meth, c, G, B0, nn, nL⟩ := q
    obtain ⟨hx, hb, -⟩ := hq
    exact fun hX H locs la hH hS hla => lv_ldiv hx hb hd hy (kk hX H locs la hH hS hla)
theorem k_lrem (hq : e_B q own cc nl fr lo ret nm) {x y : Int64} (hd : decode cc pc = .ok (.lrem, 1)) (kk : ¬ y = 0 → e_K en q r0 h0 (pc + 1) ls (.long (x - x / y * y) :: st) h X) : e_K en q r0 h0 pc ls (.long y :: .long x :: st) h (if y = 0 then none else X) := by
  by_cases hy : y = 0
  · rw [if_pos hy]; exact k_none rfl
  · rw [if_neg hy]
    have kk := kk hy
    obtain ⟨p, l, e, R, s, m, args, below, meth, c, G, B0, nn, nL⟩ := q
    obtain ⟨hx, hb, -⟩ := hq
    exact fun hX H locs la hH hS hla => lv_lrem hx hb hd hy (kk hX H locs la hH hS hla)
theorem h_ai_spec {h : eH} {t a : Nat} {i v : Int32} (hv : h_ai h t a i = some v) : ∃ (n : Nat) (f : Nat → Int32), h a = some (oI t n f) ∧ vp_in i n ∧ v = f i.toNatClampNeg := by
  unfold h_ai at hv
  split at hv
  · rename_i t' n f ho
    split at hv
    · rename_i hc
      obtain ⟨rfl, h1, h2⟩ := hc
      cases hv
      exact ⟨n, f, ho, fun z => z.elim h1 (fun z => absurd h2 (Nat.not_lt.mpr z)), rfl⟩
    · cases hv
  · cases hv
theorem h_al64_spec {h : eH} {a : Nat} {i : Int32} {v : Int64} (hv : h_al64 h a i = some v) : ∃ (n : Nat) (f : Nat → Int64), h a = some (oL 1 n f) ∧ vp_in i n ∧ v = f i.toNatClampNeg := by
  unfold h_al64 at hv
  split at hv
  · rename_i t' n f ho
    split at hv
    · rename_i hc
      obtain ⟨rfl, h1, h2⟩ := hc
      cases hv
      exact ⟨n, f, ho, fun z => z.elim h1 (fun z => absurd h2 (Nat.not_lt.mpr z)), rfl⟩
    · cases hv
  · cases hv
theorem h_ar_spec {h : eH} {t a : Nat} {i : Int32} {v : Nat} (hv : h_ar h t a i = some v) : ∃ (n : Nat) (f : Nat → Option Nat), h a = some (oR t n f) ∧ vp_in i n ∧ f i.toNatClampNeg = some v := by
  unfold h_ar at hv
  split at hv
  · rename_i t' n f ho
    split at hv
    · rename_i hc
      obtain ⟨rfl, h1, h2⟩ := hc
      exact ⟨n, f, ho, fun z => z.elim h1 (fun z => absurd h2 (Nat.not_lt.mpr z)), hv⟩
    · cases hv
  · cases hv
theorem h_len_spec {h : eH} {a : Nat} {v : Int32} (hv : h_len h a = some v) : ∃ (t : Nat) (x : vp_A), h a = some (.inl (t, x)) ∧ t < 6 ∧ v = Int32.ofNat x.1 := by
  unfold h_len at hv
  split at hv
  · rename_i t' n f ho
    split at hv
    · rename_i hc
      cases hv
      exact ⟨t', (n, f), ho, hc, rfl⟩
    · cases hv
  · cases hv
theorem h_si_spec {h h' : eH} {t a : Nat} {i x : Int32} (hv : h_si h t a i x = some h') : ∃ (n : Nat) (f : Nat → Int32), h a = some (oI t n f) ∧ vp_in i n ∧ h' = h_set h a (oI t n (upd f i.toNatClampNeg x)) := by
  unfold h_si at hv
  split at hv
  · rename_i t' n f ho
    split at hv
    · rename_i hc
      obtain ⟨rfl, h1, h2⟩ := hc
      cases hv
      exact ⟨n, f, ho, fun z => z.elim h1 (fun z => absurd h2 (Nat.not_lt.mpr z)), rfl⟩
    · cases hv
  · cases hv
theorem h_sl_spec {h h' : eH} {a : Nat} {i : Int32} {x : Int64} (hv : h_sl h a i x = some h') : ∃ (n : Nat) (f : Nat → Int64), h a = some (oL 1 n f) ∧ vp_in i n ∧ h' = h_set h a (oL 1 n (vp_updL f i.toNatClampNeg x)) := by
  unfold h_sl at hv
  split at hv
  · rename_i t' n f ho
    split at hv
    · rename_i hc
      obtain ⟨rfl, h1, h2⟩ := hc
      cases hv
      exact ⟨n, f, ho, fun z => z.elim h1 (fun z => absurd h2 (Nat.not_lt.mpr z)), rfl⟩
    · cases hv
  · cases hv
theorem h_sr_spec {h h' : eH} {t c a : Nat} {i : Int32} {x : Nat} (hv : h_sr h t c a i x = some h') : ∃ (n : Nat) (f : Nat → Option Nat) (V : Nat → Value), h a = some (oR t n f) ∧ h x = some (oB c V) ∧ vp_in i n ∧ h' = h_set h a (oR t n (va_up f i.toNatClampNeg (some x))) := by
  unfold h_sr at hv
  split at hv
  · rename_i t' n f ho
    split at hv
    · rename_i c' V hox
      split at hv
      · rename_i hc
        obtain ⟨rfl, rfl, h1, h2⟩ := hc
        cases hv
        exact ⟨n, f, V, ho, hox, fun z => z.elim h1 (fun z => absurd h2 (Nat.not_lt.mpr z)), rfl⟩
      · cases hv
    · cases hv
  · cases hv
theorem h_g_spec {h : eH} {c a k : Nat} {v : Value} (hv : h_g h c a k = some v) : ∃ V : Nat → Value, h a = some (oB c V) ∧ v = V k := by
  unfold h_g at hv
  split at hv
  · rename_i c' V ho
    split at hv
    · rename_i hc
      subst hc
      cases hv
      exact ⟨V, ho, rfl⟩
    · cases hv
  · cases hv
theorem h_gi_spec {h : eH} {c a k : Nat} {v : Int32} (hv : h_gi h c a k = some v) : h_g h c a k = some (.int v) := by
  unfold h_gi at hv
  obtain ⟨w, h1, h2⟩ := Option.bind_eq_some_iff.mp hv
  cases w <;> first | (cases h2; exact h1) | (cases h2)
theorem h_gl_spec {h : eH} {c a k : Nat} {v : Int64} (hv : h_gl h c a k = some v) : h_g h c a k = some (.long v) := by
  unfold h_gl at hv
  obtain ⟨w, h1, h2⟩ := Option.bind_eq_some_iff.mp hv
  cases w <;> first | (cases h2; exact h1) | (cases h2)
theorem h_gr_spec {h : eH} {c a k : Nat} {v : Nat} (hv : h_gr h c a k = some v) : h_g h c a k = some (.ref v) := by
  unfold h_gr at hv
  obtain ⟨w, h1, h2⟩ := Option.bind_eq_some_iff.mp hv
  cases w <;> first | (cases h2; exact h1) | (cases h2)
theorem h_p_spec {h h' : eH} {c a k : Nat} {v : Value} (hv : h_p h c a k v = some h') : ∃ V : Nat → Value, h a = some (oB c V) ∧ h' = h_set h a (oB c (updV V k v)) := by
  unfold h_p at hv
  split at hv
  · rename_i c' V ho
    split at hv
    · rename_i hc
      subst hc
      cases hv
      exact ⟨V, ho, rfl⟩
    · cases hv
  · cases hv
theorem h_is_spec {h : eH} {c a : Nat} {v : Unit} (hv : h_is h c a = some v) : ∃ V : Nat → Value, h a = some (oB c V) := by
  unfold h_is at hv
  split at hv
  · rename_i c' V ho
    split at hv
    · rename_i hc
      subst hc
      exact ⟨V, ho⟩
    · cases hv
  · cases hv
theorem h_z_spec {x v : Int32} (hv : h_z x = some v) : (x = 0 ∨ x = 1) ∧ v = x := by
  unfold h_z at hv
  split at hv
  · rename_i hc
    cases hv
    exact ⟨hc, rfl⟩
  · cases hv
theorem e_at.kept {G : eG} {a : Nat} {o : eO} {H H1 : Heap} (hh : e_at G a o H) (hq : H1[a]? = H[a]?) : e_at G a o H1 := by
  cases o with
  | inl x => exact hq.trans hh
  | inr x =>
    obtain ⟨r, h1, h2⟩ := hh
    exact ⟨r, h1, h2.kept hq⟩
theorem e_at.lt {G : eG} {a : Nat} {o : eO} {H : Heap} (hh : e_at G a o H) : a < H.size := by
  cases o with
  | inl x => exact (Array.getElem?_eq_some_iff.mp hh).1
  | inr x =>
    obtain ⟨r, h1, cell, h2, -⟩ := hh
    exact (Array.getElem?_eq_some_iff.mp h2).1
theorem e_Hs.set {G : eG} {B0 n : Nat} {h : eH} {a : Nat} {o o' : eO} {H H1 : Heap} (hH : e_Hs G B0 n h H) (ho : h a = some o) (he : e_at G a o' H1) (z : H1.size = H.size) (oq : ∀ q : Nat, q ≠ a → H1[q]? = H[q]?) : e_Hs G B0 n (h_set h a o') H1 := by
  refine ⟨by rw [z]; exact hH.1, fun b u hb => ?_⟩
  unfold h_set at hb
  split at hb
  · rename_i hba
    subst hba
    cases hb
    exact ⟨(hH.2 b o ho).1, he⟩
  · rename_i hba
    exact ⟨(hH.2 b u hb).1, (hH.2 b u hb).2.kept (oq b hba)⟩
theorem e_arr {G : eG} {U : State} {B0 : Nat} (hC : e_Cx G B0 U) (t : Nat) {ty : FieldType} (ht : (e_tys G)[t]? = some (G.2.1 t, ty)) : ArrOfT U (G.2.1 t) ty ∧ va_RA U (G.2.1 t) ty := hC.1.2 t _ ht

theorem k_iald (hq : e_B q own cc nl fr lo ret nm) {a : Nat} {i : Int32} {f : Int32 → Option (ρ × eH)} (hd : decode cc pc = .ok (.iaload, 1)) (kk : ∀ v, e_K en q r0 h0 (pc + 1) ls (.int v :: st) h (f v)) : e_K en q r0 h0 pc ls (.int i :: .ref a :: st) h ((h_ai h 0 a i).bind f) := by
  refine k_bind fun v hv => ?_
  have kk := kk v
  obtain ⟨n, g, ho, hin, hvv⟩ := h_ai_spec hv
  obtain ⟨p, l, e, R, s, m, args, below, meth, c, G, B0, nn, nL⟩ := q
  obtain ⟨hx, hb, hml, hnl, hown, hC, hlk, hfr, hlo, hret, hnm⟩ := hq
  refine fun hX H locs la hH hS hla => ?_
  have hlt : i.toNatClampNeg < n := Nat.not_le.mp fun z => hin (Or.inr z)
  have hat : H[a]? = some (vp_cell (G.2.1 0) (n, .inl g)) := (hH.2 a _ ho).2
  exact W.iald (v := .int v) hx hb hat ((e_arr hC 0 rfl).1 n (fun j => .int (g j))) (fun z => by cases z) (by show ¬ (i < 0 ∨ (arrV _ _ _).slots.size ≤ _); rw [arrV_size]; exact hin) (by show (arrV _ _ _).slots[_]? = _; rw [arrV_read _ _ hlt, hvv]) rfl rfl hd (kk hX H locs la hH hS hla)
theorem k_zald (hq : e_B q own cc nl fr lo ret nm) {a : Nat} {i : Int32} {f : Int32 → Option (ρ × eH)} (hd : decode cc pc = .ok (.baload, 1)) (kk : ∀ v, e_K en q r0 h0 (pc + 1) ls (.int v :: st) h (f v)) : e_K en q r0 h0 pc ls (.int i :: .ref a :: st) h ((h_ai h 2 a i).bind f) := by
  refine k_bind fun v hv => ?_
  have kk := kk v
  obtain ⟨n, g, ho, hin, hvv⟩ := h_ai_spec hv
  obtain ⟨p, l, e, R, s, m, args, below, meth, c, G, B0, nn, nL⟩ := q
  obtain ⟨hx, hb, hml, hnl, hown, hC, hlk, hfr, hlo, hret, hnm⟩ := hq
  refine fun hX H locs la hH hS hla => ?_
  have hlt : i.toNatClampNeg < n := Nat.not_le.mp fun z => hin (Or.inr z)
  have hat : H[a]? = some (vp_cell (G.2.1 2) (n, .inl g)) := (hH.2 a _ ho).2
  exact W.zald (v := .int v) hx hb hat ((e_arr hC 2 rfl).1 n (fun j => .int (g j))) (fun z => by cases z) (by show ¬ (i < 0 ∨ (arrV _ _ _).slots.size ≤ _); rw [arrV_size]; exact hin) (by show (arrV _ _ _).slots[_]? = _; rw [arrV_read _ _ hlt, hvv]) rfl rfl hd (kk hX H locs la hH hS hla)
theorem k_lald (hq : e_B q own cc nl fr lo ret nm) {a : Nat} {i : Int32} {f : Int64 → Option (ρ × eH)} (hd : decode cc pc = .ok (.laload, 1)) (kk : ∀ v, e_K en q r0 h0 (pc + 1) ls (.long v :: st) h (f v)) : e_K en q r0 h0 pc ls (.int i :: .ref a :: st) h ((h_al64 h a i).bind f) := by
  refine k_bind fun v hv => ?_
  have kk := kk v
  obtain ⟨n, g, ho, hin, hvv⟩ := h_al64_spec hv
  obtain ⟨p, l, e, R, s, m, args, below, meth, c, G, B0, nn, nL⟩ := q
  obtain ⟨hx, hb, hml, hnl, hown, hC, hlk, hfr, hlo, hret, hnm⟩ := hq
  refine fun hX H locs la hH hS hla => ?_
  have hlt : i.toNatClampNeg < n := Nat.not_le.mp fun z => hin (Or.inr z)
  have hat : H[a]? = some (vp_cell (G.2.1 1) (n, .inr (.inl g))) := (hH.2 a _ ho).2
  exact W.lald (v := .long v) hx hb hat ((e_arr hC 1 rfl).1 n (fun j => .long (g j))) (fun z => by cases z) (by show ¬ (i < 0 ∨ (arrV _ _ _).slots.size ≤ _); rw [arrV_size]; exact hin) (by show (arrV _ _ _).slots[_]? = _; rw [arrV_read _ _ hlt, hvv]) rfl rfl hd (kk hX H locs la hH hS hla)
theorem k_aald (hq : e_B q own cc nl fr lo ret nm) (t : Nat) {C : String} (hty : ∀ G : eG, (e_tys G)[t]? = some (G.2.1 t, .object C)) {a : Nat} {i : Int32} {f : Nat → Option (ρ × eH)} (hd : decode cc pc = .ok (.aaload, 1)) (kk : ∀ v, e_K en q r0 h0 (pc + 1) ls (.ref v :: st) h (f v)) : e_K en q r0 h0 pc ls (.int i :: .ref a :: st) h ((h_ar h t a i).bind f) := by
  refine k_bind fun v hv => ?_
  have kk := kk v
  obtain ⟨n, g, ho, hin, hvv⟩ := h_ar_spec hv
  obtain ⟨p, l, e, R, s, m, args, below, meth, c, G, B0, nn, nL⟩ := q
  obtain ⟨hx, hb, hml, hnl, hown, hC, hlk, hfr, hlo, hret, hnm⟩ := hq
  refine fun hX H locs la hH hS hla => ?_
  have hlt : i.toNatClampNeg < n := Nat.not_le.mp fun z => hin (Or.inr z)
  have hat : H[a]? = some (vp_cell (G.2.1 t) (n, .inr (.inr (.inr (.inr g))))) := (hH.2 a _ ho).2
  exact W.aald (v := .ref v) (ty := .object C) hx hb hat ((e_arr hC t (hty G)).1 n (fun j => va_rf (g j))) rfl (fun z => by cases z) (by show ¬ (i < 0 ∨ (arrV _ _ _).slots.size ≤ _); rw [arrV_size]; exact hin) (by show (arrV _ _ _).slots[_]? = _; rw [arrV_read _ _ hlt, hvv]; rfl) rfl rfl hd (kk hX H locs la hH hS hla)
theorem k_alen (hq : e_B q own cc nl fr lo ret nm) {a : Nat} {f : Int32 → Option (ρ × eH)} (hd : decode cc pc = .ok (.arraylength, 1)) (kk : ∀ v, e_K en q r0 h0 (pc + 1) ls (.int v :: st) h (f v)) : e_K en q r0 h0 pc ls (.ref a :: st) h ((h_len h a).bind f) := by
  refine k_bind fun v hv => ?_
  have kk := kk v
  obtain ⟨t, x, ho, ht6, rfl⟩ := h_len_spec hv
  obtain ⟨p, l, e, R, s, m, args, below, meth, c, G, B0, nn, nL⟩ := q
  obtain ⟨hx, hb, hml, hnl, hown, hC, hlk, hfr, hlo, hret, hnm⟩ := hq
  refine fun hX H locs la hH hS hla => ?_
  have hty : ∃ ty, (e_tys G)[t]? = some (G.2.1 t, ty) := by
    rcases (show t = 0 ∨ t = 1 ∨ t = 2 ∨ t = 3 ∨ t = 4 ∨ t = 5 by omega) with rfl | rfl | rfl | rfl | rfl | rfl <;> exact ⟨_, rfl⟩
  obtain ⟨ty, hty⟩ := hty
  have hat : va_P G.1 vwCl [(a, .inl (G.2.1 t, x))] H := by
    intro k z hz
    cases k with
    | zero => cases hz; exact (hH.2 a _ ho).2
    | succ k => cases hz
  exact va_alen (q0 := 0) (t0 := t) hx hb hC.1 hat rfl hty rfl hd (kk hX H locs la hH hS hla)
theorem k_iast (hq : e_B q own cc nl fr lo ret nm) {a : Nat} {i : Int32} {x : Int32} {f : eH → Option (ρ × eH)} (hd : decode cc pc = .ok (.iastore, 1)) (kk : ∀ h', e_K en q r0 h0 (pc + 1) ls st h' (f h')) : e_K en q r0 h0 pc ls (.int x :: .int i :: .ref a :: st) h ((h_si h 0 a i (x)).bind f) := by
  refine k_bind fun v hv => ?_
  have kk := kk v
  obtain ⟨n, g, ho, hin, rfl⟩ := h_si_spec hv
  obtain ⟨p, l, e, R, s, m, args, below, meth, c, G, B0, nn, nL⟩ := q
  obtain ⟨hx, hb, hml, hnl, hown, hC, hlk, hfr, hlo, hret, hnm⟩ := hq
  refine fun hX H locs la hH hS hla => ?_
  have hat : H[a]? = some (vp_cell (G.2.1 0) (n, .inl g)) := (hH.2 a _ ho).2
  refine W.iast hx hb hat ((e_arr hC 0 rfl).1 n (fun j => .int (g j))) (fun z => by cases z) (by show ¬ (i < 0 ∨ (arrV _ _ _).slots.size ≤ _); rw [arrV_size]; exact hin) rfl rfl hd fun H1 e1 z1 o1 => ?_
  refine kk hX H1 _ la (hH.set ho ?_ z1 o1) (hS.put z1 o1 (hH.2 a _ ho).1) hla
  show H1[a]? = some (vp_cell _ _)
  rw [e1, vp_cell_i, vp_cell_i, arrV_store]
  congr 2
  funext w
  by_cases hw : w = i.toNatClampNeg
  · subst hw
    simp [updV, upd]
  · simp [updV, upd, vp_updL, va_up, hw]
theorem k_zast (hq : e_B q own cc nl fr lo ret nm) {a : Nat} {i : Int32} {x : Int32} {f : eH → Option (ρ × eH)} (hd : decode cc pc = .ok (.bastore, 1)) (kk : ∀ h', e_K en q r0 h0 (pc + 1) ls st h' (f h')) : e_K en q r0 h0 pc ls (.int x :: .int i :: .ref a :: st) h ((h_si h 2 a i (vp_nar .boolean x)).bind f) := by
  refine k_bind fun v hv => ?_
  have kk := kk v
  obtain ⟨n, g, ho, hin, rfl⟩ := h_si_spec hv
  obtain ⟨p, l, e, R, s, m, args, below, meth, c, G, B0, nn, nL⟩ := q
  obtain ⟨hx, hb, hml, hnl, hown, hC, hlk, hfr, hlo, hret, hnm⟩ := hq
  refine fun hX H locs la hH hS hla => ?_
  have hat : H[a]? = some (vp_cell (G.2.1 2) (n, .inl g)) := (hH.2 a _ ho).2
  refine W.zast hx hb hat ((e_arr hC 2 rfl).1 n (fun j => .int (g j))) (fun z => by cases z) (by show ¬ (i < 0 ∨ (arrV _ _ _).slots.size ≤ _); rw [arrV_size]; exact hin) rfl rfl hd fun H1 e1 z1 o1 => ?_
  refine kk hX H1 _ la (hH.set ho ?_ z1 o1) (hS.put z1 o1 (hH.2 a _ ho).1) hla
  show H1[a]? = some (vp_cell _ _)
  rw [e1, vp_cell_i, vp_cell_i, arrV_store]
  congr 2
  funext w
  by_cases hw : w = i.toNatClampNeg
  · subst hw
    simp [updV, upd, vp_nar]
    try rfl
  · simp [updV, upd, vp_updL, va_up, hw]
theorem k_last (hq : e_B q own cc nl fr lo ret nm) {a : Nat} {i : Int32} {x : Int64} {f : eH → Option (ρ × eH)} (hd : decode cc pc = .ok (.lastore, 1)) (kk : ∀ h', e_K en q r0 h0 (pc + 1) ls st h' (f h')) : e_K en q r0 h0 pc ls (.long x :: .int i :: .ref a :: st) h ((h_sl h a i (x)).bind f) := by
  refine k_bind fun v hv => ?_
  have kk := kk v
  obtain ⟨n, g, ho, hin, rfl⟩ := h_sl_spec hv
  obtain ⟨p, l, e, R, s, m, args, below, meth, c, G, B0, nn, nL⟩ := q
  obtain ⟨hx, hb, hml, hnl, hown, hC, hlk, hfr, hlo, hret, hnm⟩ := hq
  refine fun hX H locs la hH hS hla => ?_
  have hat : H[a]? = some (vp_cell (G.2.1 1) (n, .inr (.inl g))) := (hH.2 a _ ho).2
  refine W.last hx hb hat ((e_arr hC 1 rfl).1 n (fun j => .long (g j))) (fun z => by cases z) (by show ¬ (i < 0 ∨ (arrV _ _ _).slots.size ≤ _); rw [arrV_size]; exact hin) rfl rfl hd fun H1 e1 z1 o1 => ?_
  refine kk hX H1 _ la (hH.set ho ?_ z1 o1) (hS.put z1 o1 (hH.2 a _ ho).1) hla
  show H1[a]? = some (vp_cell _ _)
  rw [e1, vp_cell_l, vp_cell_l, arrV_store]
  congr 2
  funext w
  by_cases hw : w = i.toNatClampNeg
  · subst hw
    simp [updV, vp_updL]
  · simp [updV, upd, vp_updL, va_up, hw]
theorem k_aast (hq : e_B q own cc nl fr lo ret nm) (t ci : Nat) {r1 : vw_C} (hty : ∀ G : eG, (e_tys G)[t]? = some (G.2.1 t, .object r1.1)) (hci : vwCl[ci]? = some r1) {a x : Nat} {i : Int32} {f : eH → Option (ρ × eH)} (hd : decode cc pc = .ok (.aastore, 1)) (kk : ∀ h', e_K en q r0 h0 (pc + 1) ls st h' (f h')) : e_K en q r0 h0 pc ls (.ref x :: .int i :: .ref a :: st) h ((h_sr h t ci a i x).bind f) := by
  refine k_bind fun v hv => ?_
  have kk := kk v
  obtain ⟨n, g, V, ho, hox, hin, rfl⟩ := h_sr_spec hv
  obtain ⟨p, l, e, R, s, m, args, below, meth, c, G, B0, nn, nL⟩ := q
  obtain ⟨hx, hb, hml, hnl, hown, hC, hlk, hfr, hlo, hret, hnm⟩ := hq
  refine fun hX H locs la hH hS hla => ?_
  have hlt : i.toNatClampNeg < n := Nat.not_le.mp fun z => hin (Or.inr z)
  have hi0 : ¬ i < 0 := fun z => hin (Or.inl z)
  have hat : H[a]? = some (vp_cell (G.2.1 t) (n, .inr (.inr (.inr (.inr g))))) := (hH.2 a _ ho).2
  obtain ⟨r', hr', cellV, g1, g2, g3, -⟩ := (hH.2 x _ hox).2
  have hcls := (hC.1.1 ci r1 hci).2
  obtain ⟨kA, comp, k1, k2, k3, -⟩ := (e_arr hC t (hty G)).2
  have hcomp : comp = G.1.1 ci := Option.some.inj (k3.symm.trans hcls.1)
  subst hcomp
  obtain ⟨kC, hkC, -⟩ := hcls.2
  refine W.aast hx hb hat (fun w z => by cases z) (fun z => by cases z) k1 k2 rfl hkC ⟨hi0, by show _ < (arrV _ _ _).slots.size; rw [arrV_size]; exact hlt⟩ g1 (fun w z => by rw [g3] at z; cases z) (by rw [g2]; exact hkC) (by rw [g2]; exact va_assign hcls) rfl rfl hd fun H1 e1 z1 o1 => ?_
  refine kk hX H1 _ la (hH.set ho ?_ z1 o1) (hS.put z1 o1 (hH.2 a _ ho).1) hla
  show H1[a]? = some (vp_cell _ _)
  rw [e1, vp_cell_q, vp_cell_q, arrV_store]
  congr 2
  funext w
  by_cases hw : w = i.toNatClampNeg
  · subst hw
    simp [updV, va_up, va_rf]
  · simp [updV, va_up, hw]
theorem k_gi (hq : e_B q own cc nl fr lo ret nm) {C : String} {T : u_T} {N : Nat} (ci k : Nat) {index : Nat} (hci : vwCl[ci]? = some (C, T, N)) (hk : k < N) (hlay : e_in (u_lay C T k)) (hlink : e_in (.fieldLink own index (T k).1 (T k).2.1 (T k).2.2.1)) {a : Nat} {f : Int32 → Option (ρ × eH)} (hd : decode cc pc = .ok (.getfield index, 3)) (kk : ∀ v, e_K en q r0 h0 (pc + 3) ls (.int v :: st) h (f v)) : e_K en q r0 h0 pc ls (.ref a :: st) h ((h_gi h ci a k).bind f) := by
  refine k_bind fun v hv => ?_
  have kk := kk v
  obtain ⟨V, ho, hvv⟩ := h_g_spec (h_gi_spec hv)
  obtain ⟨p, l, e, R, s, m, args, below, meth, c, G, B0, nn, nL⟩ := q
  obtain ⟨hx, hb, hml, hnl, hown, hC, hlk, hfr, hlo, hret, hnm⟩ := hq
  refine fun hX H locs la hH hS hla => ?_
  obtain ⟨r, hr, cell, q1, q2, q3, q4⟩ := (hH.2 a _ ho).2
  have hrr : r = (C, T, N) := Option.some.inj (hr.symm.trans hci)
  subst hrr
  obtain ⟨hSl, hfc, kC, hkC, hkind⟩ := hC.1.1 ci _ hci
  obtain ⟨cf, kf, fi, fd, hi, hsl⟩ := hSl k hk
  have hly := hC.2.1 _ hlay args
  have hly2 : (Cond.lays C (T k).1 (T k).2.1 (T k).2.2.1).before args s = true ∨ (Cond.laysFinal C (T k).1 (T k).2.1 (T k).2.2.1).before args s = true := by
    unfold u_lay at hly
    split at hly
    · exact Or.inr hly
    · exact Or.inl hly
  exact W.getf hx hb hown (hC.2.1 _ hlink _) hi (u_facts hfc hkC hly2 hi).1 q1 (by rw [q3]; exact fun z => by cases z) (v := .int v) (by rw [hsl, q4 k hk, hvv]) rfl rfl hd (kk hX H locs la hH hS hla)
theorem k_gl (hq : e_B q own cc nl fr lo ret nm) {C : String} {T : u_T} {N : Nat} (ci k : Nat) {index : Nat} (hci : vwCl[ci]? = some (C, T, N)) (hk : k < N) (hlay : e_in (u_lay C T k)) (hlink : e_in (.fieldLink own index (T k).1 (T k).2.1 (T k).2.2.1)) {a : Nat} {f : Int64 → Option (ρ × eH)} (hd : decode cc pc = .ok (.getfield index, 3)) (kk : ∀ v, e_K en q r0 h0 (pc + 3) ls (.long v :: st) h (f v)) : e_K en q r0 h0 pc ls (.ref a :: st) h ((h_gl h ci a k).bind f) := by
  refine k_bind fun v hv => ?_
  have kk := kk v
  obtain ⟨V, ho, hvv⟩ := h_g_spec (h_gl_spec hv)
  obtain ⟨p, l, e, R, s, m, args, below, meth, c, G, B0, nn, nL⟩ := q
  obtain ⟨hx, hb, hml, hnl, hown, hC, hlk, hfr, hlo, hret, hnm⟩ := hq
  refine fun hX H locs la hH hS hla => ?_
  obtain ⟨r, hr, cell, q1, q2, q3, q4⟩ := (hH.2 a _ ho).2
  have hrr : r = (C, T, N) := Option.some.inj (hr.symm.trans hci)
  subst hrr
  obtain ⟨hSl, hfc, kC, hkC, hkind⟩ := hC.1.1 ci _ hci
  obtain ⟨cf, kf, fi, fd, hi, hsl⟩ := hSl k hk
  have hly := hC.2.1 _ hlay args
  have hly2 : (Cond.lays C (T k).1 (T k).2.1 (T k).2.2.1).before args s = true ∨ (Cond.laysFinal C (T k).1 (T k).2.1 (T k).2.2.1).before args s = true := by
    unfold u_lay at hly
    split at hly
    · exact Or.inr hly
    · exact Or.inl hly
  exact W.getf hx hb hown (hC.2.1 _ hlink _) hi (u_facts hfc hkC hly2 hi).1 q1 (by rw [q3]; exact fun z => by cases z) (v := .long v) (by rw [hsl, q4 k hk, hvv]) rfl rfl hd (kk hX H locs la hH hS hla)
theorem k_gr (hq : e_B q own cc nl fr lo ret nm) {C : String} {T : u_T} {N : Nat} (ci k : Nat) {index : Nat} (hci : vwCl[ci]? = some (C, T, N)) (hk : k < N) (hlay : e_in (u_lay C T k)) (hlink : e_in (.fieldLink own index (T k).1 (T k).2.1 (T k).2.2.1)) {a : Nat} {f : Nat → Option (ρ × eH)} (hd : decode cc pc = .ok (.getfield index, 3)) (kk : ∀ v, e_K en q r0 h0 (pc + 3) ls (.ref v :: st) h (f v)) : e_K en q r0 h0 pc ls (.ref a :: st) h ((h_gr h ci a k).bind f) := by
  refine k_bind fun v hv => ?_
  have kk := kk v
  obtain ⟨V, ho, hvv⟩ := h_g_spec (h_gr_spec hv)
  obtain ⟨p, l, e, R, s, m, args, below, meth, c, G, B0, nn, nL⟩ := q
  obtain ⟨hx, hb, hml, hnl, hown, hC, hlk, hfr, hlo, hret, hnm⟩ := hq
  refine fun hX H locs la hH hS hla => ?_
  obtain ⟨r, hr, cell, q1, q2, q3, q4⟩ := (hH.2 a _ ho).2
  have hrr : r = (C, T, N) := Option.some.inj (hr.symm.trans hci)
  subst hrr
  obtain ⟨hSl, hfc, kC, hkC, hkind⟩ := hC.1.1 ci _ hci
  obtain ⟨cf, kf, fi, fd, hi, hsl⟩ := hSl k hk
  have hly := hC.2.1 _ hlay args
  have hly2 : (Cond.lays C (T k).1 (T k).2.1 (T k).2.2.1).before args s = true ∨ (Cond.laysFinal C (T k).1 (T k).2.1 (T k).2.2.1).before args s = true := by
    unfold u_lay at hly
    split at hly
    · exact Or.inr hly
    · exact Or.inl hly
  exact W.getf hx hb hown (hC.2.1 _ hlink _) hi (u_facts hfc hkC hly2 hi).1 q1 (by rw [q3]; exact fun z => by cases z) (v := .ref v) (by rw [hsl, q4 k hk, hvv]) rfl rfl hd (kk hX H locs la hH hS hla)
theorem k_giN (hq : e_B q own cc nl fr lo ret nm) {C : String} {T : u_T} {N : Nat} (ci k : Nat) {index : Nat} (hci : vwCl[ci]? = some (C, T, N)) (hk : k < N) (hlay : e_in (u_lay C T k)) (hlink : e_nin (.fieldLinkNest own index (T k).1 (T k).2.1 (T k).2.2.1 "SideVersions")) {a : Nat} {f : Int32 → Option (ρ × eH)} (hd : decode cc pc = .ok (.getfield index, 3)) (kk : ∀ v, e_K en q r0 h0 (pc + 3) ls (.int v :: st) h (f v)) : e_K en q r0 h0 pc ls (.ref a :: st) h ((h_gi h ci a k).bind f) := by
  refine k_bind fun v hv => ?_
  have kk := kk v
  obtain ⟨V, ho, hvv⟩ := h_g_spec (h_gi_spec hv)
  obtain ⟨p, l, e, R, s, m, args, below, meth, c, G, B0, nn, nL⟩ := q
  obtain ⟨hx, hb, hml, hnl, hown, hC, hlk, hfr, hlo, hret, hnm⟩ := hq
  refine fun hX H locs la hH hS hla => ?_
  obtain ⟨r, hr, cell, q1, q2, q3, q4⟩ := (hH.2 a _ ho).2
  have hrr : r = (C, T, N) := Option.some.inj (hr.symm.trans hci)
  subst hrr
  obtain ⟨hSl, hfc, kC, hkC, hkind⟩ := hC.1.1 ci _ hci
  obtain ⟨cf, kf, fi, fd, hi, hsl⟩ := hSl k hk
  have hly := hC.2.1 _ hlay args
  have hly2 : (Cond.lays C (T k).1 (T k).2.1 (T k).2.2.1).before args s = true ∨ (Cond.laysFinal C (T k).1 (T k).2.1 (T k).2.2.1).before args s = true := by
    unfold u_lay at hly
    split at hly
    · exact Or.inr hly
    · exact Or.inl hly
  exact va_Wgetf hx hb hown (va_Nw.use rfl (hC.2.2.1 _ hlink)) hi (u_facts hfc hkC hly2 hi).1 q1 (by rw [q3]; exact fun z => by cases z) (v := .int v) (by rw [hsl, q4 k hk, hvv]) rfl rfl hd (kk hX H locs la hH hS hla)
theorem k_glN (hq : e_B q own cc nl fr lo ret nm) {C : String} {T : u_T} {N : Nat} (ci k : Nat) {index : Nat} (hci : vwCl[ci]? = some (C, T, N)) (hk : k < N) (hlay : e_in (u_lay C T k)) (hlink : e_nin (.fieldLinkNest own index (T k).1 (T k).2.1 (T k).2.2.1 "SideVersions")) {a : Nat} {f : Int64 → Option (ρ × eH)} (hd : decode cc pc = .ok (.getfield index, 3)) (kk : ∀ v, e_K en q r0 h0 (pc + 3) ls (.long v :: st) h (f v)) : e_K en q r0 h0 pc ls (.ref a :: st) h ((h_gl h ci a k).bind f) := by
  refine k_bind fun v hv => ?_
  have kk := kk v
  obtain ⟨V, ho, hvv⟩ := h_g_spec (h_gl_spec hv)
  obtain ⟨p, l, e, R, s, m, args, below, meth, c, G, B0, nn, nL⟩ := q
  obtain ⟨hx, hb, hml, hnl, hown, hC, hlk, hfr, hlo, hret, hnm⟩ := hq
  refine fun hX H locs la hH hS hla => ?_
  obtain ⟨r, hr, cell, q1, q2, q3, q4⟩ := (hH.2 a _ ho).2
  have hrr : r = (C, T, N) := Option.some.inj (hr.symm.trans hci)
  subst hrr
  obtain ⟨hSl, hfc, kC, hkC, hkind⟩ := hC.1.1 ci _ hci
  obtain ⟨cf, kf, fi, fd, hi, hsl⟩ := hSl k hk
  have hly := hC.2.1 _ hlay args
  have hly2 : (Cond.lays C (T k).1 (T k).2.1 (T k).2.2.1).before args s = true ∨ (Cond.laysFinal C (T k).1 (T k).2.1 (T k).2.2.1).before args s = true := by
    unfold u_lay at hly
    split at hly
    · exact Or.inr hly
    · exact Or.inl hly
  exact va_Wgetf hx hb hown (va_Nw.use rfl (hC.2.2.1 _ hlink)) hi (u_facts hfc hkC hly2 hi).1 q1 (by rw [q3]; exact fun z => by cases z) (v := .long v) (by rw [hsl, q4 k hk, hvv]) rfl rfl hd (kk hX H locs la hH hS hla)
theorem k_grN (hq : e_B q own cc nl fr lo ret nm) {C : String} {T : u_T} {N : Nat} (ci k : Nat) {index : Nat} (hci : vwCl[ci]? = some (C, T, N)) (hk : k < N) (hlay : e_in (u_lay C T k)) (hlink : e_nin (.fieldLinkNest own index (T k).1 (T k).2.1 (T k).2.2.1 "SideVersions")) {a : Nat} {f : Nat → Option (ρ × eH)} (hd : decode cc pc = .ok (.getfield index, 3)) (kk : ∀ v, e_K en q r0 h0 (pc + 3) ls (.ref v :: st) h (f v)) : e_K en q r0 h0 pc ls (.ref a :: st) h ((h_gr h ci a k).bind f) := by
  refine k_bind fun v hv => ?_
  have kk := kk v
  obtain ⟨V, ho, hvv⟩ := h_g_spec (h_gr_spec hv)
  obtain ⟨p, l, e, R, s, m, args, below, meth, c, G, B0, nn, nL⟩ := q
  obtain ⟨hx, hb, hml, hnl, hown, hC, hlk, hfr, hlo, hret, hnm⟩ := hq
  refine fun hX H locs la hH hS hla => ?_
  obtain ⟨r, hr, cell, q1, q2, q3, q4⟩ := (hH.2 a _ ho).2
  have hrr : r = (C, T, N) := Option.some.inj (hr.symm.trans hci)
  subst hrr
  obtain ⟨hSl, hfc, kC, hkC, hkind⟩ := hC.1.1 ci _ hci
  obtain ⟨cf, kf, fi, fd, hi, hsl⟩ := hSl k hk
  have hly := hC.2.1 _ hlay args
  have hly2 : (Cond.lays C (T k).1 (T k).2.1 (T k).2.2.1).before args s = true ∨ (Cond.laysFinal C (T k).1 (T k).2.1 (T k).2.2.1).before args s = true := by
    unfold u_lay at hly
    split at hly
    · exact Or.inr hly
    · exact Or.inl hly
  exact va_Wgetf hx hb hown (va_Nw.use rfl (hC.2.2.1 _ hlink)) hi (u_facts hfc hkC hly2 hi).1 q1 (by rw [q3]; exact fun z => by cases z) (v := .ref v) (by rw [hsl, q4 k hk, hvv]) rfl rfl hd (kk hX H locs la hH hS hla)
theorem k_p (hq : e_B q own cc nl fr lo ret nm) {C : String} {T : u_T} {N : Nat} (ci k : Nat) {index : Nat} (hci : vwCl[ci]? = some (C, T, N)) (hk : k < N) (hlays : ∀ z, z < N → e_in (u_lay C T z)) (ty0 : Nat → FieldType) (hty : ∀ k, k < N → parseFieldDescriptor (T k).2.2.1 = some (ty0 k)) (hnmT : ∀ a, a < N → ∀ b, b < N → a ≠ b → (T a).2.1 ≠ (T b).2.1) (hlink : e_in (.fieldLink own index (T k).1 (T k).2.1 (T k).2.2.1)) (hfin : (T k).2.2.2 = false) {a : Nat} {v : Value} {f : eH → Option (ρ × eH)} (hn : narrow (ty0 k) v = v) (hfit : fits (ty0 k) v = true) (hd : decode cc pc = .ok (.putfield index, 3)) (kk : ∀ h', e_K en q r0 h0 (pc + 3) ls st h' (f h')) : e_K en q r0 h0 pc ls (v :: .ref a :: st) h ((h_p h ci a k v).bind f) := by
  refine k_bind fun h' hv => ?_
  have kk := kk h'
  obtain ⟨V, ho, rfl⟩ := h_p_spec hv
  obtain ⟨p, l, e, R, s, m, args, below, meth, c, G, B0, nn, nL⟩ := q
  obtain ⟨hx, hb, hml, hnl, hown, hC, hlk, hfr, hlo, hret, hnm⟩ := hq
  refine fun hX H locs la hH hS hla => ?_
  obtain ⟨r, hr, cell, q1, q2, q3, q4⟩ := (hH.2 a _ ho).2
  have hrr : r = (C, T, N) := Option.some.inj (hr.symm.trans hci)
  subst hrr
  obtain ⟨hSl, hfc, kC, hkC, hkind⟩ := hC.1.1 ci _ hci
  obtain ⟨cf, kf, fi, fd, hi, hsl⟩ := hSl k hk
  have hap : ∀ x y, x < N → y < N → x ≠ y → (G.1.2 ci) x ≠ (G.1.2 ci) y := by
    intro x y hxN hyN hne
    obtain ⟨_, _, _, fa, hia, ea⟩ := hSl x hxN
    obtain ⟨_, _, _, fb, hib, eb⟩ := hSl y hyN
    have gl : ∀ z, z < N → (Cond.lays C (T z).1 (T z).2.1 (T z).2.2.1).before args s = true ∨ (Cond.laysFinal C (T z).1 (T z).2.1 (T z).2.2.1).before args s = true := by
      intro z hz
      have hly := hC.2.1 _ (hlays z hz) args
      unfold u_lay at hly
      split at hly
      · exact Or.inr hly
      · exact Or.inl hly
    rw [← ea, ← eb]
    refine u_apart (gl x hxN) (gl y hyN) hia hib ?_
    rw [(State.fieldFound?_type hia (hty x hxN)).1, (State.fieldFound?_type hib (hty y hyN)).1]
    exact hnmT x hxN y hyN hne
  have hlay := hC.2.1 _ (hlays k hk) args
  unfold u_lay at hlay
  rw [if_neg (by rw [hfin]; decide)] at hlay
  have hst := (u_facts hfc hkC (Or.inl hlay) hi).1
  have h6 := u_store hfc hkC hkind hlay hi (hty k hk) hn hfit
  refine W.putK hx hb (f := fd) ⟨hown, (hC.2.1 _ hlink _), ⟨_, _, _, hi⟩, hst⟩ (by rw [q2]; exact h6) q1 q3 (by rw [hsl]; exact k2_hasslot (q4 k hk)) rfl rfl hd fun H1 e1 e3 e4 => ?_
  rw [hsl] at e1
  exact kk hX H1 _ la (hH.set ho ⟨_, hci, _, e1, q2, q3, t_set q4 hap hk v⟩ e3 e4) (hS.put e3 e4 (hH.2 a _ ho).1) hla
theorem k_pF (hq : e_B q own cc nl fr lo ret nm) {C : String} {T : u_T} {N : Nat} (ci k : Nat) {index : Nat} (hci : vwCl[ci]? = some (C, T, N)) (hk : k < N) (hlays : ∀ z, z < N → e_in (u_lay C T z)) (ty0 : Nat → FieldType) (hty : ∀ k, k < N → parseFieldDescriptor (T k).2.2.1 = some (ty0 k)) (hnmT : ∀ a, a < N → ∀ b, b < N → a ≠ b → (T a).2.1 ≠ (T b).2.1) (hlink : e_in (.fieldLink own index (T k).1 (T k).2.1 (T k).2.2.1)) (hfin : (T k).2.2.2 = true) (hdecl : (T k).1 = own) (hinit : nm = "<init>") {a : Nat} {v : Value} {f : eH → Option (ρ × eH)} (hn : narrow (ty0 k) v = v) (hfit : fits (ty0 k) v = true) (hd : decode cc pc = .ok (.putfield index, 3)) (kk : ∀ h', e_K en q r0 h0 (pc + 3) ls st h' (f h')) : e_K en q r0 h0 pc ls (v :: .ref a :: st) h ((h_p h ci a k v).bind f) := by
  refine k_bind fun h' hv => ?_
  have kk := kk h'
  obtain ⟨V, ho, rfl⟩ := h_p_spec hv
  obtain ⟨p, l, e, R, s, m, args, below, meth, c, G, B0, nn, nL⟩ := q
  obtain ⟨hx, hb, hml, hnl, hown, hC, hlk, hfr, hlo, hret, hnm⟩ := hq
  refine fun hX H locs la hH hS hla => ?_
  obtain ⟨r, hr, cell, q1, q2, q3, q4⟩ := (hH.2 a _ ho).2
  have hrr : r = (C, T, N) := Option.some.inj (hr.symm.trans hci)
  subst hrr
  obtain ⟨hSl, hfc, kC, hkC, hkind⟩ := hC.1.1 ci _ hci
  obtain ⟨cf, kf, fi, fd, hi, hsl⟩ := hSl k hk
  have hap : ∀ x y, x < N → y < N → x ≠ y → (G.1.2 ci) x ≠ (G.1.2 ci) y := by
    intro x y hxN hyN hne
    obtain ⟨_, _, _, fa, hia, ea⟩ := hSl x hxN
    obtain ⟨_, _, _, fb, hib, eb⟩ := hSl y hyN
    have gl : ∀ z, z < N → (Cond.lays C (T z).1 (T z).2.1 (T z).2.2.1).before args s = true ∨ (Cond.laysFinal C (T z).1 (T z).2.1 (T z).2.2.1).before args s = true := by
      intro z hz
      have hly := hC.2.1 _ (hlays z hz) args
      unfold u_lay at hly
      split at hly
      · exact Or.inr hly
      · exact Or.inl hly
    rw [← ea, ← eb]
    refine u_apart (gl x hxN) (gl y hyN) hia hib ?_
    rw [(State.fieldFound?_type hia (hty x hxN)).1, (State.fieldFound?_type hib (hty y hyN)).1]
    exact hnmT x hxN y hyN hne
  have hlay := hC.2.1 _ (hlays k hk) args
  unfold u_lay at hlay
  rw [if_pos hfin] at hlay
  have hst := (u_facts hfc hkC (Or.inr hlay) hi).1
  have hcf : m.cls = cf := by
    obtain ⟨_, _, c', _, _, _, -, -, hf', -, -, -, hown2, -⟩ := Cond.laysFinal_spec hlay
    have e1 : c' = cf := by have := hi.symm.trans hf'; simp at this; exact this.1.symm
    rw [hdecl] at hown2
    rw [← e1]; exact Option.some.inj (hown.symm.trans hown2)
  have h6 := u_fits hfc hkC hkind (Or.inr hlay) hi (hty k hk) hn hfit
  refine W.putFinK hx hb hown (hC.2.1 _ hlink _) hi hst hcf (by rw [hnm]; exact hinit) (by rw [q2]; exact h6) q1 q3 (by rw [hsl]; exact k2_hasslot (q4 k hk)) rfl rfl hd fun H1 e1 e3 e4 => ?_
  rw [hsl] at e1
  exact kk hX H1 _ la (hH.set ho ⟨_, hci, _, e1, q2, q3, t_set q4 hap hk v⟩ e3 e4) (hS.put e3 e4 (hH.2 a _ ho).1) hla
theorem k_pN (hq : e_B q own cc nl fr lo ret nm) {C : String} {T : u_T} {N : Nat} (ci k : Nat) {index : Nat} (hci : vwCl[ci]? = some (C, T, N)) (hk : k < N) (hlays : ∀ z, z < N → e_in (u_lay C T z)) (ty0 : Nat → FieldType) (hty : ∀ k, k < N → parseFieldDescriptor (T k).2.2.1 = some (ty0 k)) (hnmT : ∀ a, a < N → ∀ b, b < N → a ≠ b → (T a).2.1 ≠ (T b).2.1) (hlink : e_nin (.fieldLinkNest own index (T k).1 (T k).2.1 (T k).2.2.1 "SideVersions")) (hfin : (T k).2.2.2 = false) {a : Nat} {v : Value} {f : eH → Option (ρ × eH)} (hn : narrow (ty0 k) v = v) (hfit : fits (ty0 k) v = true) (hd : decode cc pc = .ok (.putfield index, 3)) (kk : ∀ h', e_K en q r0 h0 (pc + 3) ls st h' (f h')) : e_K en q r0 h0 pc ls (v :: .ref a :: st) h ((h_p h ci a k v).bind f) := by
  refine k_bind fun h' hv => ?_
  have kk := kk h'
  obtain ⟨V, ho, rfl⟩ := h_p_spec hv
  obtain ⟨p, l, e, R, s, m, args, below, meth, c, G, B0, nn, nL⟩ := q
  obtain ⟨hx, hb, hml, hnl, hown, hC, hlk, hfr, hlo, hret, hnm⟩ := hq
  refine fun hX H locs la hH hS hla => ?_
  obtain ⟨r, hr, cell, q1, q2, q3, q4⟩ := (hH.2 a _ ho).2
  have hrr : r = (C, T, N) := Option.some.inj (hr.symm.trans hci)
  subst hrr
  obtain ⟨hSl, hfc, kC, hkC, hkind⟩ := hC.1.1 ci _ hci
  obtain ⟨cf, kf, fi, fd, hi, hsl⟩ := hSl k hk
  have hap : ∀ x y, x < N → y < N → x ≠ y → (G.1.2 ci) x ≠ (G.1.2 ci) y := by
    intro x y hxN hyN hne
    obtain ⟨_, _, _, fa, hia, ea⟩ := hSl x hxN
    obtain ⟨_, _, _, fb, hib, eb⟩ := hSl y hyN
    have gl : ∀ z, z < N → (Cond.lays C (T z).1 (T z).2.1 (T z).2.2.1).before args s = true ∨ (Cond.laysFinal C (T z).1 (T z).2.1 (T z).2.2.1).before args s = true := by
      intro z hz
      have hly := hC.2.1 _ (hlays z hz) args
      unfold u_lay at hly
      split at hly
      · exact Or.inr hly
      · exact Or.inl hly
    rw [← ea, ← eb]
    refine u_apart (gl x hxN) (gl y hyN) hia hib ?_
    rw [(State.fieldFound?_type hia (hty x hxN)).1, (State.fieldFound?_type hib (hty y hyN)).1]
    exact hnmT x hxN y hyN hne
  have hlay := hC.2.1 _ (hlays k hk) args
  unfold u_lay at hlay
  rw [if_neg (by rw [hfin]; decide)] at hlay
  have hst := (u_facts hfc hkC (Or.inl hlay) hi).1
  have h6 := u_store hfc hkC hkind hlay hi (hty k hk) hn hfit
  refine va_WputK hx hb (f := fd) hown (va_Nw.use rfl (hC.2.2.1 _ hlink)) hi hst (by rw [q2]; exact h6) q1 q3 (by rw [hsl]; exact k2_hasslot (q4 k hk)) rfl rfl hd fun H1 e1 e3 e4 => ?_
  rw [hsl] at e1
  exact kk hX H1 _ la (hH.set ho ⟨_, hci, _, e1, q2, q3, t_set q4 hap hk v⟩ e3 e4) (hS.put e3 e4 (hH.2 a _ ho).1) hla
theorem e_blind {G : eG} {B0 n : Nat} {av : List Value} {h : eH} : FrameBlind (e_P G B0 n av h) := by
  intro a U g mk hP
  obtain ⟨h1, h2, h3⟩ := hP
  exact ⟨h1, h2, e_Cx.same (s := U) rfl rfl h3⟩
theorem e_ran {ρ' : Type} {en' : ρ' → Option Value} {p : Program} {l : Launch} {e : Env} {R : Room} {s : State} {m : MethodId} {args : Array Value} {below : List Frame} {meth : Method} {c : Code} {G : eG} {B0 n nL : Nat} {H : Heap} {locs : List Loc} {la : Array Slot} {st0 rest : List Value} {r' : ρ'} {h1 : eH} {a1 : Array Value} {Q : State → Prop}
    (hr : va_Run p l e R s m args below meth c H locs 0 0 0 0 (F0 m pc la st0) rest (e_Q en' G B0 n r' h1 a1) (fun x => B0 ≤ x)) (hS : va_S (fun x => B0 ≤ x) s.heap H locs)
    (kk : ∀ (H1 : Heap) (locs1 : List Loc), e_Hs G B0 n h1 H1 → va_S (fun x => B0 ≤ x) s.heap H1 locs1 → W p l e R s m args below meth c H1 locs1 0 0 Q (F0 m (pc + 3) la ((en' r').toList ++ rest))) : W p l e R s m args below meth c H locs 0 0 Q (F0 m pc la st0) := by
  intro T hT X
  obtain ⟨v, st₀, t, T', L, hh0, X', hL, e1, e2, ⟨hv, hHs, hz, hk⟩, st⟩ := hr T hT X
  cases hv
  rw [hh0] at hz hk
  obtain ⟨t2, a1, b1⟩ := kk T'.heap (locs ++ L) (by rw [e1]; exact hHs) ⟨Nat.le_trans hS.1 (by rw [e1]; exact hz), fun x g1 g2 => by rw [e1, hk x (Nat.lt_of_lt_of_le g1 hS.1) g2]; exact hS.2.1 x g1 g2, fun x hx => by
      rcases List.mem_append.mp hx with z | z
      · exact hS.2.2 x z
      · exact hL x z⟩ T' rfl X'
  exact ⟨t2, st t2 a1, b1⟩
theorem k_callS (hq : e_B q own cc nl fr lo ret nm) {ρ' : Type} {en' : ρ' → Option Value} {y : MethodName} {bytes : ByteArray} {maxL fr' lo' idx na : Nat} {ret' : Option FieldType} {As : List Value} {st0 : List Value} {F' : eH → Option (ρ' × eH)} {f : ρ' × eH → Option (ρ × eH)} (hM : e_C en' (e_l q) (e_G q) (e_B0 q) (e_n q) y bytes maxL ret' fr' lo' As F') (wcode : e_in (.code y bytes maxL ret')) (wini : e_in (.initialized y.cls)) (wlink : e_in (.methodLink own idx y)) (wst : e_in (.static y)) (hy : y.cls ≠ "java/lang/invoke/MethodHandle" ∧ y.cls ≠ "java/lang/invoke/VarHandle" ∧ (parseMethodDescriptor y.desc).map (fun d => d.parameters.length) = some na) (hna : As.length = na) (hfl : fr' + 1 ≤ fr ∧ 8 + (maxL + 11) + lo' ≤ lo) (hst : st0 = As.reverse ++ st) (hW8 : (st.map fun v => v.category).sum ≤ 8) (hd : decode cc pc = .ok (.invokestatic idx, 3)) (kk : ∀ r h', e_K en q r0 h0 (pc + 3) ls ((en' r).toList ++ st) h' (f (r, h'))) : e_K en q r0 h0 pc ls st0 h ((F' h).bind f) := by
  refine k_bind fun v hv => ?_
  obtain ⟨r', h1⟩ := v
  have kk := kk r' h1
  have hMet := hM h r' h1 hv
  subst hst
  obtain ⟨p, l, e, R, s, m, args, below, meth, c, G, B0, nn, nL⟩ := q
  obtain ⟨hx, hb, hml, hnl, hown, hC, hlk, hfr, hlo, hret, hnm⟩ := hq
  refine fun hX H locs la hH hS hla => ?_
  have hgo : ∀ U : State, U.heap = H → s.WarmedH U.vm → e_Cx G B0 U := fun U hU hW => hC.go hW (by rw [hU]; exact hS.1) (fun a g1 g2 => by rw [hU]; exact hS.2.1 a g1 g2)
  refine e_ran (nL := nL) (va_runS (As := As) (rest := st) (Ts := []) ⟨hx, hb, hml, hown, fun w hw => by cases hw⟩ hMet ⟨⟨rfl, rfl, by rw [hfr]; exact hfl.1, by rw [hlo]; exact hfl.2, fun w hw a' U hW => by rw [List.mem_singleton.mp hw]; exact word_at hW (good_of_word wcode.2) (hC.2.1 _ wcode #[]), List.mem_singleton.mpr rfl, hC.2.1 _ wcode _, hC.2.1 _ wini _, ⟨hy.1, hy.2.1⟩, fun sig hs => by have h2 := hy.2.2; rw [hs] at h2; exact (Option.some.inj h2).symm, hC.2.1 _ wlink _⟩, hC.2.1 _ wst _⟩ ⟨e_blind, fun U hU hW => ⟨rfl, by rw [hU]; exact hH, hgo U hU hW⟩⟩ rfl hna hla.1 rfl (by show 2 * 0 + _ ≤ 8; omega) hd ⟨Nat.zero_le _, Nat.zero_le _⟩) hS fun H1 locs1 g5 g6 => ?_
  exact kk hX H1 locs1 la g5 g6 hla
theorem k_callV (hq : e_B q own cc nl fr lo ret nm) {ρ' : Type} {en' : ρ' → Option Value} {y : MethodName} {bytes : ByteArray} {maxL fr' lo' idx na : Nat} {ret' : Option FieldType} {As : List Value} {st0 : List Value} {F' : eH → Option (ρ' × eH)} {f : ρ' × eH → Option (ρ × eH)} {b : Nat} (ci : Nat) {C : String} {T : u_T} {N : Nat} (hci : vwCl[ci]? = some (C, T, N)) (hM : e_C en' (e_l q) (e_G q) (e_B0 q) (e_n q) y bytes maxL ret' fr' lo' (.ref b :: As) F') (wcode : e_in (.code y bytes maxL ret')) (wini : e_in (.initialized y.cls)) (wlink : e_in (.methodLink own idx y)) (winst : e_in (.instanceMethod y)) (wsel : e_in (.selects C y y)) (hy : y.cls ≠ "java/lang/invoke/MethodHandle" ∧ y.cls ≠ "java/lang/invoke/VarHandle" ∧ (parseMethodDescriptor y.desc).map (fun d => d.parameters.length) = some na) (hna : As.length = na) (hfl : fr' + 1 ≤ fr ∧ 8 + (maxL + 11) + lo' ≤ lo) (hst : st0 = As.reverse ++ .ref b :: st) (hW8 : (st.map fun v => v.category).sum ≤ 8) (hd : decode cc pc = .ok (.invokevirtual idx, 3)) (kk : ∀ r h', e_K en q r0 h0 (pc + 3) ls ((en' r).toList ++ st) h' (f (r, h'))) : e_K en q r0 h0 pc ls st0 h ((h_is h ci b).bind fun _ => (F' h).bind f) := by
  refine k_bind fun _ hv0 => ?_
  obtain ⟨Vb, hob⟩ := h_is_spec hv0
  refine k_bind fun v hv => ?_
  obtain ⟨r', h1⟩ := v
  have kk := kk r' h1
  have hMet := hM h r' h1 hv
  subst hst
  obtain ⟨p, l, e, R, s, m, args, below, meth, c, G, B0, nn, nL⟩ := q
  obtain ⟨hx, hb, hml, hnl, hown, hC, hlk, hfr, hlo, hret, hnm⟩ := hq
  refine fun hX H locs la hH hS hla => ?_
  have hgo : ∀ U : State, U.heap = H → s.WarmedH U.vm → e_Cx G B0 U := fun U hU hW => hC.go hW (by rw [hU]; exact hS.1) (fun a g1 g2 => by rw [hU]; exact hS.2.1 a g1 g2)
  obtain ⟨rr, hrr, cellB, g1, g2, g3, -⟩ := (hH.2 b _ hob).2
  have hcl := (hC.1.1 ci _ hci).2.1
  refine e_ran (nL := nL) (va_runV (As := As) (rest := st) (Ts := []) ⟨hx, hb, hml, hown, fun w hw => by cases hw⟩ hMet ⟨⟨rfl, rfl, by rw [hfr]; exact hfl.1, by rw [hlo]; exact hfl.2, fun w hw a' U hW => by rw [List.mem_singleton.mp hw]; exact word_at hW (good_of_word wcode.2) (hC.2.1 _ wcode #[]), List.mem_singleton.mpr rfl, hC.2.1 _ wcode _, hC.2.1 _ wini _, ⟨hy.1, hy.2.1⟩, fun sig hs => by have h2 := hy.2.2; rw [hs] at h2; exact (Option.some.inj h2).symm, hC.2.1 _ wlink _⟩, hC.2.1 _ winst _, hC.2.1 _ wsel _⟩ ⟨e_blind, ⟨cellB, g1, by rw [g3]; rfl, by rw [g2]; exact hcl⟩, fun U hU hW => ⟨rfl, by rw [hU]; exact hH, hgo U hU hW⟩⟩ rfl hna hla.1 rfl (by show 2 * 0 + _ ≤ 8; omega) hd ⟨Nat.zero_le _, Nat.zero_le _⟩) hS fun H1 locs1 g5 g6 => ?_
  exact kk hX H1 locs1 la g5 g6 hla
theorem k_callI (hq : e_B q own cc nl fr lo ret nm) {ρ' : Type} {en' : ρ' → Option Value} {y : MethodName} {bytes : ByteArray} {maxL fr' lo' idx na : Nat}  {As : List Value} {st0 : List Value} {F' : eH → Option (ρ' × eH)} {f : ρ' × eH → Option (ρ × eH)} {b : Nat} (hM : e_C en' (e_l q) (e_G q) (e_B0 q) (e_n q) y bytes maxL none fr' lo' (.ref b :: As) F') (wcode : e_in (.code y bytes maxL none)) (wini : e_in (.initialized y.cls)) (wlink : e_in (.methodLink own idx y)) (winst : e_in (.instanceMethod y)) (hy1 : y.name = "<init>") (hy : y.cls ≠ "java/lang/invoke/MethodHandle" ∧ y.cls ≠ "java/lang/invoke/VarHandle" ∧ (parseMethodDescriptor y.desc).map (fun d => d.parameters.length) = some na) (hna : As.length = na) (hfl : fr' + 1 ≤ fr ∧ 8 + (maxL + 11) + lo' ≤ lo) (hst : st0 = As.reverse ++ .ref b :: st) (hW8 : (st.map fun v => v.category).sum ≤ 8) (hd : decode cc pc = .ok (.invokespecial idx, 3)) (kk : ∀ r h', e_K en q r0 h0 (pc + 3) ls ((en' r).toList ++ st) h' (f (r, h'))) : e_K en q r0 h0 pc ls st0 h ((F' h).bind f) := by
  refine k_bind fun v hv => ?_
  obtain ⟨r', h1⟩ := v
  have kk := kk r' h1
  have hMet := hM h r' h1 hv
  subst hst
  obtain ⟨p, l, e, R, s, m, args, below, meth, c, G, B0, nn, nL⟩ := q
  obtain ⟨hx, hb, hml, hnl, hown, hC, hlk, hfr, hlo, hret, hnm⟩ := hq
  refine fun hX H locs la hH hS hla => ?_
  have hgo : ∀ U : State, U.heap = H → s.WarmedH U.vm → e_Cx G B0 U := fun U hU hW => hC.go hW (by rw [hU]; exact hS.1) (fun a g1 g2 => by rw [hU]; exact hS.2.1 a g1 g2)
  refine e_ran (nL := nL) (va_runI (As := As) (rest := st) (Ts := []) ⟨hx, hb, hml, hown, fun w hw => by cases hw⟩ hMet ⟨⟨rfl, rfl, by rw [hfr]; exact hfl.1, by rw [hlo]; exact hfl.2, fun w hw a' U hW => by rw [List.mem_singleton.mp hw]; exact word_at hW (good_of_word wcode.2) (hC.2.1 _ wcode #[]), List.mem_singleton.mpr rfl, hC.2.1 _ wcode _, hC.2.1 _ wini _, ⟨hy.1, hy.2.1⟩, fun sig hs => by have h2 := hy.2.2; rw [hs] at h2; exact (Option.some.inj h2).symm, hC.2.1 _ wlink _⟩, hy1, hC.2.1 _ winst _⟩ ⟨e_blind, fun U hU hW => ⟨rfl, by rw [hU]; exact hH, hgo U hU hW⟩⟩ rfl hna hla.1 rfl (by show 2 * 0 + _ ≤ 8; omega) hd ⟨Nat.zero_le _, Nat.zero_le _⟩) hS fun H1 locs1 g5 g6 => ?_
  exact kk hX H1 locs1 la g5 g6 hla
theorem k_callSN (hq : e_B q own cc nl fr lo ret nm) {ρ' : Type} {en' : ρ' → Option Value} {y : MethodName} {bytes : ByteArray} {maxL fr' lo' idx na : Nat} {ret' : Option FieldType} {As : List Value} {st0 : List Value} {F' : eH → Option (ρ' × eH)} {f : ρ' × eH → Option (ρ × eH)} (hM : e_C en' (e_l q) (e_G q) (e_B0 q) (e_n q) y bytes maxL ret' fr' lo' As F') (wcode : e_in (.code y bytes maxL ret')) (wini : e_in (.initialized y.cls)) (wlink : e_nin (.methodLinkNest own idx y "SideVersions")) (wst : e_in (.static y)) (hy : y.cls ≠ "java/lang/invoke/MethodHandle" ∧ y.cls ≠ "java/lang/invoke/VarHandle" ∧ (parseMethodDescriptor y.desc).map (fun d => d.parameters.length) = some na) (hna : As.length = na) (hfl : fr' + 1 ≤ fr ∧ 8 + (maxL + 11) + lo' ≤ lo) (hst : st0 = As.reverse ++ st) (hW8 : (st.map fun v => v.category).sum ≤ 8) (hd : decode cc pc = .ok (.invokestatic idx, 3)) (kk : ∀ r h', e_K en q r0 h0 (pc + 3) ls ((en' r).toList ++ st) h' (f (r, h'))) : e_K en q r0 h0 pc ls st0 h ((F' h).bind f) := by
  refine k_bind fun v hv => ?_
  obtain ⟨r', h1⟩ := v
  have kk := kk r' h1
  have hMet := hM h r' h1 hv
  subst hst
  obtain ⟨p, l, e, R, s, m, args, below, meth, c, G, B0, nn, nL⟩ := q
  obtain ⟨hx, hb, hml, hnl, hown, hC, hlk, hfr, hlo, hret, hnm⟩ := hq
  refine fun hX H locs la hH hS hla => ?_
  have hgo : ∀ U : State, U.heap = H → s.WarmedH U.vm → e_Cx G B0 U := fun U hU hW => hC.go hW (by rw [hU]; exact hS.1) (fun a g1 g2 => by rw [hU]; exact hS.2.1 a g1 g2)
  refine e_ran (nL := nL) (va_runSN (As := As) (rest := st) (Ts := []) ⟨hx, hb, hml, hown, fun w hw => by cases hw⟩ hMet ⟨⟨⟨rfl, rfl, by rw [hfr]; exact hfl.1, by rw [hlo]; exact hfl.2, fun w hw a' U hW => by rw [List.mem_singleton.mp hw]; exact word_at hW (good_of_word wcode.2) (hC.2.1 _ wcode #[]), List.mem_singleton.mpr rfl⟩, hC.2.1 _ wcode _, hC.2.1 _ wini _, ⟨hy.1, hy.2.1⟩, fun sig hs => by have h2 := hy.2.2; rw [hs] at h2; exact (Option.some.inj h2).symm, va_Nw.use rfl (hC.2.2.1 _ wlink)⟩, hC.2.1 _ wst _, trivial⟩ ⟨e_blind, fun U hU hW => ⟨rfl, by rw [hU]; exact hH, hgo U hU hW⟩⟩ rfl hna hla.1 rfl (by show 2 * 0 + _ ≤ 8; omega) hd ⟨Nat.zero_le _, Nat.zero_le _⟩) hS fun H1 locs1 g5 g6 => ?_
  exact kk hX H1 locs1 la g5 g6 hla
theorem k_callIN (hq : e_B q own cc nl fr lo ret nm) {ρ' : Type} {en' : ρ' → Option Value} {y : MethodName} {bytes : ByteArray} {maxL fr' lo' idx na : Nat}  {As : List Value} {st0 : List Value} {F' : eH → Option (ρ' × eH)} {f : ρ' × eH → Option (ρ × eH)} {b : Nat} (hM : e_C en' (e_l q) (e_G q) (e_B0 q) (e_n q) y bytes maxL none fr' lo' (.ref b :: As) F') (wcode : e_in (.code y bytes maxL none)) (wini : e_in (.initialized y.cls)) (wlink : e_nin (.methodLinkNest own idx y "SideVersions")) (winst : e_in (.instanceMethod y)) (hy1 : y.name = "<init>") (hy : y.cls ≠ "java/lang/invoke/MethodHandle" ∧ y.cls ≠ "java/lang/invoke/VarHandle" ∧ (parseMethodDescriptor y.desc).map (fun d => d.parameters.length) = some na) (hna : As.length = na) (hfl : fr' + 1 ≤ fr ∧ 8 + (maxL + 11) + lo' ≤ lo) (hst : st0 = As.reverse ++ .ref b :: st) (hW8 : (st.map fun v => v.category).sum ≤ 8) (hd : decode cc pc = .ok (.invokespecial idx, 3)) (kk : ∀ r h', e_K en q r0 h0 (pc + 3) ls ((en' r).toList ++ st) h' (f (r, h'))) : e_K en q r0 h0 pc ls st0 h ((F' h).bind f) := by
  refine k_bind fun v hv => ?_
  obtain ⟨r', h1⟩ := v
  have kk := kk r' h1
  have hMet := hM h r' h1 hv
  subst hst
  obtain ⟨p, l, e, R, s, m, args, below, meth, c, G, B0, nn, nL⟩ := q
  obtain ⟨hx, hb, hml, hnl, hown, hC, hlk, hfr, hlo, hret, hnm⟩ := hq
  refine fun hX H locs la hH hS hla => ?_
  have hgo : ∀ U : State, U.heap = H → s.WarmedH U.vm → e_Cx G B0 U := fun U hU hW => hC.go hW (by rw [hU]; exact hS.1) (fun a g1 g2 => by rw [hU]; exact hS.2.1 a g1 g2)
  refine e_ran (nL := nL) (va_runIN (As := As) (rest := st) (Ts := []) ⟨hx, hb, hml, hown, fun w hw => by cases hw⟩ hMet ⟨⟨⟨rfl, rfl, by rw [hfr]; exact hfl.1, by rw [hlo]; exact hfl.2, fun w hw a' U hW => by rw [List.mem_singleton.mp hw]; exact word_at hW (good_of_word wcode.2) (hC.2.1 _ wcode #[]), List.mem_singleton.mpr rfl⟩, hC.2.1 _ wcode _, hC.2.1 _ wini _, ⟨hy.1, hy.2.1⟩, fun sig hs => by have h2 := hy.2.2; rw [hs] at h2; exact (Option.some.inj h2).symm, va_Nw.use rfl (hC.2.2.1 _ wlink)⟩, hy1, hC.2.1 _ winst _⟩ ⟨e_blind, fun U hU hW => ⟨rfl, by rw [hU]; exact hH, hgo U hU hW⟩⟩ rfl hna hla.1 rfl (by show 2 * 0 + _ ≤ 8; omega) hd ⟨Nat.zero_le _, Nat.zero_le _⟩) hS fun H1 locs1 g5 g6 => ?_
  exact kk hX H1 locs1 la g5 g6 hla
theorem k_objInit (hq : e_B q own cc nl fr lo ret nm) {idx a : Nat} (wlink : e_in (.methodLink own idx Lib.objectInit)) (winst : e_in (.instanceMethod Lib.objectInit)) (wcode : e_in (.code Lib.objectInit ⟨#[0xb1]⟩ 1 none)) (hf1 : 1 ≤ fr) (hl1 : (st.map fun v => v.category).sum + 12 ≤ lo) (hd : decode cc pc = .ok (.invokespecial idx, 3)) (kk : e_K en q r0 h0 (pc + 3) ls st h X) : e_K en q r0 h0 pc ls (.ref a :: st) h X := by
  obtain ⟨p, l, e, R, s, m, args, below, meth, c, G, B0, nn, nL⟩ := q
  obtain ⟨hx, hb, hml, hnl, hown, hC, hlk, hfr, hlo, hret, hnm⟩ := hq
  refine fun hX H locs la hH hS hla => ?_
  refine W.objInit hx hb hown (hC.2.1 _ wlink _) (hC.2.1 _ winst _) (hC.2.1 _ wcode _) rfl (by rw [hml]; exact hla.1) rfl hd (by rw [hfr]; exact hf1) (by show 2 * 0 + _ + 12 ≤ _; rw [hlo]; omega) ?_
  exact kk hX H locs la hH hS hla
theorem k_ldc2 (hq : e_B q own cc nl fr lo ret nm) {idx : Nat} {v : Int64} (hc : e_in (.constantLong own idx v)) (hd : decode cc pc = .ok (.ldc2_w idx, 3)) (kk : e_K en q r0 h0 (pc + 3) ls (.long v :: st) h X) : e_K en q r0 h0 pc ls st h X := by
  obtain ⟨p, l, e, R, s, m, args, below, meth, c, G, B0, nn, nL⟩ := q
  obtain ⟨hx, hb, hml, hnl, hown, hC, hlk, hfr, hlo, hret, hnm⟩ := hq
  exact fun hX H locs la hH hS hla => W.ldc2 hx hb hown (hC.2.1 _ hc _) rfl hd (kk hX H locs la hH hS hla)
theorem k_ldc (hq : e_B q own cc nl fr lo ret nm) {idx : Nat} {v : Int32} (hc : e_in (.constant own idx v)) (hd : decode cc pc = .ok (.ldc idx, 2)) (kk : e_K en q r0 h0 (pc + 2) ls (.int v :: st) h X) : e_K en q r0 h0 pc ls st h X := by
  obtain ⟨p, l, e, R, s, m, args, below, meth, c, G, B0, nn, nL⟩ := q
  obtain ⟨hx, hb, hml, hnl, hown, hC, hlk, hfr, hlo, hret, hnm⟩ := hq
  exact fun hX H locs la hH hS hla => W.ldc hx hb hown (hC.2.1 _ hc _) rfl hd (kk hX H locs la hH hS hla)
theorem k_ldcS (hq : e_B q own cc nl fr lo ret nm) {idx : Nat} (i : Nat) (hi : i < 5) (hown1 : own = "SideVersions$Plan") (hidx : e_sidx.getD i 0 = idx) (hd : decode cc pc = .ok (.ldc idx, 2)) (kk : e_K en q r0 h0 (pc + 2) ls (.ref ((e_G q).2.2.1 i) :: st) h X) : e_K en q r0 h0 pc ls st h X := by
  obtain ⟨p, l, e, R, s, m, args, below, meth, c, G, B0, nn, nL⟩ := q
  obtain ⟨hx, hb, hml, hnl, hown, hC, hlk, hfr, hlo, hret, hnm⟩ := hq
  subst hown1
  subst hidx
  exact fun hX H locs la hH hS hla => va_ldcS hx hb hown (hC.2.2.2.2.1 i hi) hd (kk hX H locs la hH hS hla)
end EK
theorem k_iret {q : eT} {r0 : Int32} {h0 : eH} {pc : Nat} {ls : List (Nat × Value)} {h : eH} {own : String} {cc : ByteArray} {nl fr lo : Nat} {nm : String} (hq : e_B q own cc nl fr lo (some .int) nm) {v : Int32} (hd : decode cc pc = .ok (.ireturn, 1)) : e_K eI q r0 h0 pc ls [.int v] h (some (v, h)) := by
  obtain ⟨p, l, e, R, s, m, args, below, meth, c, G, B0, nn, nL⟩ := q
  obtain ⟨hx, hb, hml, hnl, hown, hC, hlk, hfr, hlo, hret, hnm⟩ := hq
  intro hX H locs la hH hS hla
  cases hX
  exact W.iret hx hb hret (fun t ht hW => ⟨rfl, by rw [ht]; exact hH, hS.F ht⟩) hS.2.2 hd hlk
theorem k_lret {q : eT} {r0 : Int64} {h0 : eH} {pc : Nat} {ls : List (Nat × Value)} {h : eH} {own : String} {cc : ByteArray} {nl fr lo : Nat} {nm : String} (hq : e_B q own cc nl fr lo (some .long) nm) {v : Int64} (hd : decode cc pc = .ok (.lreturn, 1)) : e_K eL q r0 h0 pc ls [.long v] h (some (v, h)) := by
  obtain ⟨p, l, e, R, s, m, args, below, meth, c, G, B0, nn, nL⟩ := q
  obtain ⟨hx, hb, hml, hnl, hown, hC, hlk, hfr, hlo, hret, hnm⟩ := hq
  intro hX H locs la hH hS hla
  cases hX
  exact W.lret hx hb hret (fun t ht hW => ⟨rfl, by rw [ht]; exact hH, hS.F ht⟩) hS.2.2 hd hlk
theorem k_vret {q : eT} {r0 : Unit} {h0 : eH} {pc : Nat} {ls : List (Nat × Value)} {h : eH} {own : String} {cc : ByteArray} {nl fr lo : Nat} {nm : String} (hq : e_B q own cc nl fr lo none nm) (hd : decode cc pc = .ok (.return_, 1)) : e_K eV q r0 h0 pc ls [] h (some ((), h)) := by
  obtain ⟨p, l, e, R, s, m, args, below, meth, c, G, B0, nn, nL⟩ := q
  obtain ⟨hx, hb, hml, hnl, hown, hC, hlk, hfr, hlo, hret, hnm⟩ := hq
  intro hX H locs la hH hS hla
  cases hX
  exact W.vret hx hb hret (fun t ht hW => ⟨rfl, by rw [ht]; exact hH, hS.F ht⟩) hS.2.2 hd hlk
theorem k_aret {q : eT} {r0 : Option Nat} {h0 : eH} {pc : Nat} {ls : List (Nat × Value)} {h : eH} {own : String} {cc : ByteArray} {nl fr lo : Nat} {nm : String} {C : String} (hq : e_B q own cc nl fr lo (some (.object C)) nm) {v : Option Nat} (hd : decode cc pc = .ok (.areturn, 1)) : e_K eR q r0 h0 pc ls [va_rf v] h (some (v, h)) := by
  obtain ⟨p, l, e, R, s, m, args, below, meth, c, G, B0, nn, nL⟩ := q
  obtain ⟨hx, hb, hml, hnl, hown, hC, hlk, hfr, hlo, hret, hnm⟩ := hq
  intro hX H locs la hH hS hla
  cases hX
  exact W.aret hx hb hret (Or.inl ⟨_, rfl⟩) (va_rf_or _) (fun t ht hW => ⟨rfl, by rw [ht]; exact hH, hS.F ht⟩) hS.2.2 hd hlk
theorem k_zret {q : eT} {r0 : Int32} {h0 : eH} {pc : Nat} {ls : List (Nat × Value)} {h : eH} {own : String} {cc : ByteArray} {nl fr lo : Nat} {nm : String} (hq : e_B q own cc nl fr lo (some .boolean) nm) {v : Int32} (hd : decode cc pc = .ok (.ireturn, 1)) : e_K eI q r0 h0 pc ls [.int v] h ((h_z v).bind fun v => some (v, h)) := by
  refine k_bind fun w hw => ?_
  obtain ⟨hz, rfl⟩ := h_z_spec hw
  obtain ⟨p, l, e, R, s, m, args, below, meth, c, G, B0, nn, nL⟩ := q
  obtain ⟨hx, hb, hml, hnl, hown, hC, hlk, hfr, hlo, hret, hnm⟩ := hq
  intro hX H locs la hH hS hla
  have hn : narrow .boolean (.int w) = .int w := by
    rcases hz with h1 | h1 <;> rw [h1] <;> rfl
  cases hX
  exact W.zret hx hb hret hn (fun t ht hW => ⟨rfl, by rw [ht]; exact hH, hS.F ht⟩) hS.2.2 hd hlk
theorem e_mk {ρ : Type} {en : ρ → Option Value} {l : Launch} {G : eG} {B0 n : Nat} {y : MethodName} {cc : ByteArray} {nL fr lo : Nat} {ret : Option FieldType} {av : List Value} {F : eH → Option (ρ × eH)} (hy : plainName y.cls = true) (hlen : (lg_sl av).length ≤ nL)
    (body : ∀ (q : eT) (r0 : ρ) (h0 h : eH), e_B q y.cls cc nL fr lo ret y.name → e_l q = l → e_G q = G → e_B0 q = B0 → e_n q = n → e_K en q r0 h0 0 (lv_args 0 av) [] h (F h)) : e_C en l G B0 n y cc nL ret fr lo av F := by
  intro h r h' hF
  refine Met.ofW hy rfl ?_
  intro p e s m args below meth c s₁ B hml hv
  obtain ⟨rfl, hHs, hCx⟩ := hv
  have hb := body (p, l, e, (headSpec [Cond.code y cc nL ret] { frames := fr, cells := 0, slots := 0, locals := lo }).room, s, m, av.toArray, below, meth, c, G, B0, n, nL) r h' h ⟨B.exec, B.bytes, hml, rfl, findClass_of_methodNamed B.named, hCx, B.notSynchronized, rfl, rfl, B.returns, (name_of_methodNamed B.named B.method).1⟩ rfl rfl rfl rfl
  have hl := lv_entry av hlen
  rw [lg_entry_eq]
  generalize (lg_sl av ++ List.replicate (nL - (lg_sl av).length) Slot.unset).toArray = ls at hl ⊢
  exact hb hF s.heap [] ls hHs va_S.rf hl
end
