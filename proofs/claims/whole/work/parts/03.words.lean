/-! the words of the tables that the walks use, by their places (printed by wip/whole/mkmeth.py) -/
theorem lay_X0 : ∀ z, z < 3 → e_in (u_lay RX0 TX0 z) := by
  have h : ∀ z, z < 3 → (u_lay RX0 TX0 z ∈ lw_tbl ∧ goodWord (u_lay RX0 TX0 z) = true) := by decide +kernel
  exact h
theorem lay_X1 : ∀ z, z < 1 → e_in (u_lay RX1 TX1 z) := by
  have h : ∀ z, z < 1 → (u_lay RX1 TX1 z ∈ lw_tbl ∧ goodWord (u_lay RX1 TX1 z) = true) := by decide +kernel
  exact h
theorem lay_X2 : ∀ z, z < 3 → e_in (u_lay RX2 TX2 z) := by
  have h : ∀ z, z < 3 → (u_lay RX2 TX2 z ∈ lw_tbl ∧ goodWord (u_lay RX2 TX2 z) = true) := by decide +kernel
  exact h
theorem lay_X3 : ∀ z, z < 11 → e_in (u_lay RX3 TX3 z) := by
  have h : ∀ z, z < 11 → (u_lay RX3 TX3 z ∈ lw_tbl ∧ goodWord (u_lay RX3 TX3 z) = true) := by decide +kernel
  exact h
theorem lay_X4 : ∀ z, z < 2 → e_in (u_lay RX4 TX4 z) := by
  have h : ∀ z, z < 2 → (u_lay RX4 TX4 z ∈ lw_tbl ∧ goodWord (u_lay RX4 TX4 z) = true) := by decide +kernel
  exact h
theorem lay_X5 : ∀ z, z < 3 → e_in (u_lay RX5 TX5 z) := by
  have h : ∀ z, z < 3 → (u_lay RX5 TX5 z ∈ lw_tbl ∧ goodWord (u_lay RX5 TX5 z) = true) := by decide +kernel
  exact h
theorem lay_X6 : ∀ z, z < 4 → e_in (u_lay RX6 TX6 z) := by
  have h : ∀ z, z < 4 → (u_lay RX6 TX6 z ∈ lw_tbl ∧ goodWord (u_lay RX6 TX6 z) = true) := by decide +kernel
  exact h
theorem lay_X7 : ∀ z, z < 6 → e_in (u_lay RX7 TX7 z) := by
  have h : ∀ z, z < 6 → (u_lay RX7 TX7 z ∈ lw_tbl ∧ goodWord (u_lay RX7 TX7 z) = true) := by decide +kernel
  exact h
theorem lay_X8 : ∀ z, z < 4 → e_in (u_lay RX8 TX8 z) := by
  have h : ∀ z, z < 4 → (u_lay RX8 TX8 z ∈ lw_tbl ∧ goodWord (u_lay RX8 TX8 z) = true) := by decide +kernel
  exact h
theorem lay_X10 : ∀ z, z < 5 → e_in (u_lay RX10 TX10 z) := by
  have h : ∀ z, z < 5 → (u_lay RX10 TX10 z ∈ lw_tbl ∧ goodWord (u_lay RX10 TX10 z) = true) := by decide +kernel
  exact h
theorem lay_X11 : ∀ z, z < 12 → e_in (u_lay RX11 TX11 z) := by
  have h : ∀ z, z < 12 → (u_lay RX11 TX11 z ∈ lw_tbl ∧ goodWord (u_lay RX11 TX11 z) = true) := by decide +kernel
  exact h
theorem lay_X12 : ∀ z, z < 41 → e_in (u_lay RX12 TX12 z) := by
  have h : ∀ z, z < 41 → (u_lay RX12 TX12 z ∈ lw_tbl ∧ goodWord (u_lay RX12 TX12 z) = true) := by decide +kernel
  exact h
theorem tw_0 : e_in (.selects RX7 yX7_forget yX7_forget) := ⟨List.mem_of_getElem? (i := 0) (by decide +kernel), by decide +kernel⟩
theorem tw_1 : e_in (.selects RX10 yX10_sortAt yX10_sortAt) := ⟨List.mem_of_getElem? (i := 1) (by decide +kernel), by decide +kernel⟩
theorem tw_2 : e_in (.selects RX10 yX10_byteAt yX10_byteAt) := ⟨List.mem_of_getElem? (i := 2) (by decide +kernel), by decide +kernel⟩
theorem tw_3 : e_in (.selects RX7 yX7_putUsual yX7_putUsual) := ⟨List.mem_of_getElem? (i := 3) (by decide +kernel), by decide +kernel⟩
theorem tw_4 : e_in (.selects RX7 yX7_takesWords yX7_takesWords) := ⟨List.mem_of_getElem? (i := 4) (by decide +kernel), by decide +kernel⟩
theorem tw_5 : e_in (.selects RX7 yX7_takesKey yX7_takesKey) := ⟨List.mem_of_getElem? (i := 5) (by decide +kernel), by decide +kernel⟩
theorem tw_6 : e_in (.selects RX7 yX7_takenNumber yX7_takenNumber) := ⟨List.mem_of_getElem? (i := 6) (by decide +kernel), by decide +kernel⟩
theorem tw_7 : e_in (.selects RX7 yX7_takesSemicolon yX7_takesSemicolon) := ⟨List.mem_of_getElem? (i := 7) (by decide +kernel), by decide +kernel⟩
theorem tw_8 : e_in (.selects RX11 yX11_beginAnew yX11_beginAnew) := ⟨List.mem_of_getElem? (i := 8) (by decide +kernel), by decide +kernel⟩
theorem tw_9 : e_in (.selects RX11 yX11_clientAt yX11_clientAt) := ⟨List.mem_of_getElem? (i := 9) (by decide +kernel), by decide +kernel⟩
theorem tw_10 : e_in (.selects RX11 yX11_replicaAt yX11_replicaAt) := ⟨List.mem_of_getElem? (i := 10) (by decide +kernel), by decide +kernel⟩
theorem tw_11 : e_in (.selects RX11 yX11_keyAt yX11_keyAt) := ⟨List.mem_of_getElem? (i := 11) (by decide +kernel), by decide +kernel⟩
theorem tw_12 : e_in (.selects RX11 yX11_isSite yX11_isSite) := ⟨List.mem_of_getElem? (i := 12) (by decide +kernel), by decide +kernel⟩
theorem tw_13 : e_in (.selects RX3 yX3_oldestSite yX3_oldestSite) := ⟨List.mem_of_getElem? (i := 13) (by decide +kernel), by decide +kernel⟩
theorem tw_14 : e_in (.selects RX5 yX5_placeOf yX5_placeOf) := ⟨List.mem_of_getElem? (i := 14) (by decide +kernel), by decide +kernel⟩
theorem tw_15 : e_in (.selects RX5 yX5_isPlace yX5_isPlace) := ⟨List.mem_of_getElem? (i := 15) (by decide +kernel), by decide +kernel⟩
theorem tw_16 : e_in (.selects RX6 yX6_putTogether yX6_putTogether) := ⟨List.mem_of_getElem? (i := 16) (by decide +kernel), by decide +kernel⟩
theorem tw_17 : e_in (.selects RX6 yX6_keepCommon yX6_keepCommon) := ⟨List.mem_of_getElem? (i := 17) (by decide +kernel), by decide +kernel⟩
theorem tw_18 : e_in (.selects RX11 yX11_dotAt yX11_dotAt) := ⟨List.mem_of_getElem? (i := 18) (by decide +kernel), by decide +kernel⟩
theorem tw_19 : e_in (.selects RX2 yX2_lackingSites yX2_lackingSites) := ⟨List.mem_of_getElem? (i := 19) (by decide +kernel), by decide +kernel⟩
theorem tw_20 : e_in (.selects RX2 yX2_afterSending yX2_afterSending) := ⟨List.mem_of_getElem? (i := 20) (by decide +kernel), by decide +kernel⟩
theorem tw_21 : e_in (.selects RX12 yX12_begins yX12_begins) := ⟨List.mem_of_getElem? (i := 21) (by decide +kernel), by decide +kernel⟩
theorem tw_22 : e_in (.selects RX12 yX12_forgets yX12_forgets) := ⟨List.mem_of_getElem? (i := 22) (by decide +kernel), by decide +kernel⟩
theorem tw_23 : e_in (.selects RX12 yX12_isBetween yX12_isBetween) := ⟨List.mem_of_getElem? (i := 23) (by decide +kernel), by decide +kernel⟩
theorem tw_24 : e_in (.selects RX12 yX12_readsItem yX12_readsItem) := ⟨List.mem_of_getElem? (i := 24) (by decide +kernel), by decide +kernel⟩
theorem tw_25 : e_in (.selects RX12 yX12_next yX12_next) := ⟨List.mem_of_getElem? (i := 25) (by decide +kernel), by decide +kernel⟩
theorem tw_26 : e_in (.selects RX12 yX12_number yX12_number) := ⟨List.mem_of_getElem? (i := 26) (by decide +kernel), by decide +kernel⟩
theorem tw_27 : e_in (.selects RX12 yX12_stops yX12_stops) := ⟨List.mem_of_getElem? (i := 27) (by decide +kernel), by decide +kernel⟩
theorem tw_28 : e_in (.selects RX12 yX12_isSite yX12_isSite) := ⟨List.mem_of_getElem? (i := 28) (by decide +kernel), by decide +kernel⟩
theorem tw_29 : e_in (.selects RX12 yX12_isKey yX12_isKey) := ⟨List.mem_of_getElem? (i := 29) (by decide +kernel), by decide +kernel⟩
theorem tw_30 : e_in (.selects RX12 yX12_siblings yX12_siblings) := ⟨List.mem_of_getElem? (i := 30) (by decide +kernel), by decide +kernel⟩
theorem tw_31 : e_in (.selects RX12 yX12_comes yX12_comes) := ⟨List.mem_of_getElem? (i := 31) (by decide +kernel), by decide +kernel⟩
theorem tw_32 : e_in (.selects RX12 yX12_bounds yX12_bounds) := ⟨List.mem_of_getElem? (i := 32) (by decide +kernel), by decide +kernel⟩
theorem tw_33 : e_in (.selects RX12 yX12_eldest yX12_eldest) := ⟨List.mem_of_getElem? (i := 33) (by decide +kernel), by decide +kernel⟩
theorem tw_34 : e_in (.selects RX12 yX12_ruleOf yX12_ruleOf) := ⟨List.mem_of_getElem? (i := 34) (by decide +kernel), by decide +kernel⟩
theorem tw_35 : e_in (.selects RX12 yX12_joinedAll yX12_joinedAll) := ⟨List.mem_of_getElem? (i := 35) (by decide +kernel), by decide +kernel⟩
theorem tw_36 : e_in (.selects RX12 yX12_joined yX12_joined) := ⟨List.mem_of_getElem? (i := 36) (by decide +kernel), by decide +kernel⟩
theorem tw_37 : e_in (.selects RX12 yX12_sum yX12_sum) := ⟨List.mem_of_getElem? (i := 37) (by decide +kernel), by decide +kernel⟩
theorem tw_38 : e_in (.selects RX12 yX12_isWrite yX12_isWrite) := ⟨List.mem_of_getElem? (i := 38) (by decide +kernel), by decide +kernel⟩
theorem tw_39 : e_in (.selects RX12 yX12_isLost yX12_isLost) := ⟨List.mem_of_getElem? (i := 39) (by decide +kernel), by decide +kernel⟩
theorem tw_40 : e_in (.selects RX12 yX12_areAlike yX12_areAlike) := ⟨List.mem_of_getElem? (i := 40) (by decide +kernel), by decide +kernel⟩
theorem tw_41 : e_in (.selects RX12 yX12_laysSets yX12_laysSets) := ⟨List.mem_of_getElem? (i := 41) (by decide +kernel), by decide +kernel⟩
theorem tw_42 : e_in (.selects RX12 yX12_joinsSet yX12_joinsSet) := ⟨List.mem_of_getElem? (i := 42) (by decide +kernel), by decide +kernel⟩
theorem tw_43 : e_in (.selects RX12 yX12_areLike yX12_areLike) := ⟨List.mem_of_getElem? (i := 43) (by decide +kernel), by decide +kernel⟩
theorem tw_44 : e_in (.selects RX12 yX12_fewest yX12_fewest) := ⟨List.mem_of_getElem? (i := 44) (by decide +kernel), by decide +kernel⟩
theorem tw_45 : e_in (.selects RX12 yX12_isAll yX12_isAll) := ⟨List.mem_of_getElem? (i := 45) (by decide +kernel), by decide +kernel⟩
theorem tw_46 : e_in (.selects RX12 yX12_counted yX12_counted) := ⟨List.mem_of_getElem? (i := 46) (by decide +kernel), by decide +kernel⟩
theorem tw_48 : e_in (.initialized RX11) := ⟨List.mem_of_getElem? (i := 48) (by decide +kernel), by decide +kernel⟩
theorem tw_49 : e_in (.initialized RX10) := ⟨List.mem_of_getElem? (i := 49) (by decide +kernel), by decide +kernel⟩
theorem tw_50 : e_in (.initialized RX7) := ⟨List.mem_of_getElem? (i := 50) (by decide +kernel), by decide +kernel⟩
theorem tw_51 : e_in (.initialized RX5) := ⟨List.mem_of_getElem? (i := 51) (by decide +kernel), by decide +kernel⟩
theorem tw_52 : e_in (.initialized RX6) := ⟨List.mem_of_getElem? (i := 52) (by decide +kernel), by decide +kernel⟩
theorem tw_53 : e_in (.initialized RX2) := ⟨List.mem_of_getElem? (i := 53) (by decide +kernel), by decide +kernel⟩
theorem tw_54 : e_in (.initialized RX4) := ⟨List.mem_of_getElem? (i := 54) (by decide +kernel), by decide +kernel⟩
theorem tw_55 : e_in (.initialized RX3) := ⟨List.mem_of_getElem? (i := 55) (by decide +kernel), by decide +kernel⟩
theorem tw_56 : e_in (.initialized RX1) := ⟨List.mem_of_getElem? (i := 56) (by decide +kernel), by decide +kernel⟩
theorem tw_57 : e_in (.initialized RX8) := ⟨List.mem_of_getElem? (i := 57) (by decide +kernel), by decide +kernel⟩
theorem tw_58 : e_in (.initialized RX0) := ⟨List.mem_of_getElem? (i := 58) (by decide +kernel), by decide +kernel⟩
theorem tw_59 : e_in (.initialized RX12) := ⟨List.mem_of_getElem? (i := 59) (by decide +kernel), by decide +kernel⟩
theorem tw_60 : e_in (.initialized "java/lang/Math") := ⟨List.mem_of_getElem? (i := 60) (by decide +kernel), by decide +kernel⟩
theorem tw_61 : e_in (.initialized RJ0) := ⟨List.mem_of_getElem? (i := 61) (by decide +kernel), by decide +kernel⟩
theorem tw_65 : e_in (.initialized RX9) := ⟨List.mem_of_getElem? (i := 65) (by decide +kernel), by decide +kernel⟩
theorem tw_66 : e_in (.initialized RJ13) := ⟨List.mem_of_getElem? (i := 66) (by decide +kernel), by decide +kernel⟩
theorem tw_67 : e_in (.classLink RL 7 RX11) := ⟨List.mem_of_getElem? (i := 67) (by decide +kernel), by decide +kernel⟩
theorem tw_68 : e_in (.instantiable RX11 12) := ⟨List.mem_of_getElem? (i := 68) (by decide +kernel), by decide +kernel⟩
theorem tw_69 : e_in (.methodLink RL 9 yX11_init) := ⟨List.mem_of_getElem? (i := 69) (by decide +kernel), by decide +kernel⟩
theorem tw_70 : e_in (.instanceMethod yX11_init) := ⟨List.mem_of_getElem? (i := 70) (by decide +kernel), by decide +kernel⟩
theorem tw_71 : e_in (.code yX11_init cX11_init 2 none) := ⟨List.mem_of_getElem? (i := 71) (by decide +kernel), by decide +kernel⟩
theorem tw_72 : e_in (.methodLink RX11 3 Lib.objectInit) := ⟨List.mem_of_getElem? (i := 72) (by decide +kernel), by decide +kernel⟩
theorem tw_73 : e_in (.instanceMethod Lib.objectInit) := ⟨List.mem_of_getElem? (i := 73) (by decide +kernel), by decide +kernel⟩
theorem tw_74 : e_in (.code Lib.objectInit ⟨#[0xb1]⟩ 1 none) := ⟨List.mem_of_getElem? (i := 74) (by decide +kernel), by decide +kernel⟩
theorem tw_75 : e_in (.classLink RX11 9 RX10) := ⟨List.mem_of_getElem? (i := 75) (by decide +kernel), by decide +kernel⟩
theorem tw_76 : e_in (.instantiable RX10 5) := ⟨List.mem_of_getElem? (i := 76) (by decide +kernel), by decide +kernel⟩
theorem tw_77 : e_nin (.methodLinkNest RX11 11 yX10_init "SideVersions") := ⟨List.mem_of_getElem? (i := 77) (by decide +kernel), by decide +kernel⟩
theorem tw_78 : e_in (.instanceMethod yX10_init) := ⟨List.mem_of_getElem? (i := 78) (by decide +kernel), by decide +kernel⟩
theorem tw_79 : e_in (.code yX10_init cX10_init 1 none) := ⟨List.mem_of_getElem? (i := 79) (by decide +kernel), by decide +kernel⟩
theorem tw_80 : e_in (.methodLink RX10 3 Lib.objectInit) := ⟨List.mem_of_getElem? (i := 80) (by decide +kernel), by decide +kernel⟩
theorem tw_81 : e_in (.fieldLink RX10 9 (TX10 0).1 (TX10 0).2.1 (TX10 0).2.2.1) := ⟨List.mem_of_getElem? (i := 81) (by decide +kernel), by decide +kernel⟩
theorem tw_82 : e_in (.fieldLink RX10 15 (TX10 1).1 (TX10 1).2.1 (TX10 1).2.2.1) := ⟨List.mem_of_getElem? (i := 82) (by decide +kernel), by decide +kernel⟩
theorem tw_83 : e_nin (.fieldLinkNest RX11 76 (TX10 1).1 (TX10 1).2.1 (TX10 1).2.2.1 "SideVersions") := ⟨List.mem_of_getElem? (i := 83) (by decide +kernel), by decide +kernel⟩
theorem tw_84 : e_nin (.fieldLinkNest RX7 40 (TX10 2).1 (TX10 2).2.1 (TX10 2).2.2.1 "SideVersions") := ⟨List.mem_of_getElem? (i := 84) (by decide +kernel), by decide +kernel⟩
theorem tw_85 : e_in (.fieldLink RX10 22 (TX10 2).1 (TX10 2).2.1 (TX10 2).2.2.1) := ⟨List.mem_of_getElem? (i := 85) (by decide +kernel), by decide +kernel⟩
theorem tw_86 : e_in (.fieldLink RX10 19 (TX10 3).1 (TX10 3).2.1 (TX10 3).2.2.1) := ⟨List.mem_of_getElem? (i := 86) (by decide +kernel), by decide +kernel⟩
theorem tw_87 : e_nin (.fieldLinkNest RX7 26 (TX10 4).1 (TX10 4).2.1 (TX10 4).2.2.1 "SideVersions") := ⟨List.mem_of_getElem? (i := 87) (by decide +kernel), by decide +kernel⟩
theorem tw_88 : e_in (.fieldLink RX10 29 (TX10 4).1 (TX10 4).2.1 (TX10 4).2.2.1) := ⟨List.mem_of_getElem? (i := 88) (by decide +kernel), by decide +kernel⟩
theorem tw_100 : e_in (.arrayClass .int) := ⟨List.mem_of_getElem? (i := 100) (by decide +kernel), by decide +kernel⟩
theorem tw_101 : e_in (.classLink RX11 16 RX7) := ⟨List.mem_of_getElem? (i := 101) (by decide +kernel), by decide +kernel⟩
theorem tw_102 : e_in (.instantiable RX7 6) := ⟨List.mem_of_getElem? (i := 102) (by decide +kernel), by decide +kernel⟩
theorem tw_103 : e_nin (.methodLinkNest RX11 18 yX7_init "SideVersions") := ⟨List.mem_of_getElem? (i := 103) (by decide +kernel), by decide +kernel⟩
theorem tw_104 : e_in (.instanceMethod yX7_init) := ⟨List.mem_of_getElem? (i := 104) (by decide +kernel), by decide +kernel⟩
theorem tw_105 : e_in (.code yX7_init cX7_init 1 none) := ⟨List.mem_of_getElem? (i := 105) (by decide +kernel), by decide +kernel⟩
theorem tw_106 : e_in (.methodLink RX7 3 Lib.objectInit) := ⟨List.mem_of_getElem? (i := 106) (by decide +kernel), by decide +kernel⟩
theorem tw_107 : e_in (.fieldLink RX7 9 (TX7 0).1 (TX7 0).2.1 (TX7 0).2.2.1) := ⟨List.mem_of_getElem? (i := 107) (by decide +kernel), by decide +kernel⟩
theorem tw_108 : e_in (.fieldLink RX7 49 (TX7 1).1 (TX7 1).2.1 (TX7 1).2.2.1) := ⟨List.mem_of_getElem? (i := 108) (by decide +kernel), by decide +kernel⟩
theorem tw_109 : e_nin (.fieldLinkNest RX11 294 (TX7 1).1 (TX7 1).2.1 (TX7 1).2.2.1 "SideVersions") := ⟨List.mem_of_getElem? (i := 109) (by decide +kernel), by decide +kernel⟩
theorem tw_110 : e_in (.fieldLink RX7 52 (TX7 2).1 (TX7 2).2.1 (TX7 2).2.2.1) := ⟨List.mem_of_getElem? (i := 110) (by decide +kernel), by decide +kernel⟩
theorem tw_111 : e_nin (.fieldLinkNest RX11 295 (TX7 2).1 (TX7 2).2.1 (TX7 2).2.2.1 "SideVersions") := ⟨List.mem_of_getElem? (i := 111) (by decide +kernel), by decide +kernel⟩
theorem tw_112 : e_in (.fieldLink RX7 55 (TX7 3).1 (TX7 3).2.1 (TX7 3).2.2.1) := ⟨List.mem_of_getElem? (i := 112) (by decide +kernel), by decide +kernel⟩
theorem tw_113 : e_nin (.fieldLinkNest RX11 296 (TX7 3).1 (TX7 3).2.1 (TX7 3).2.2.1 "SideVersions") := ⟨List.mem_of_getElem? (i := 113) (by decide +kernel), by decide +kernel⟩
theorem tw_114 : e_in (.fieldLink RX7 46 (TX7 4).1 (TX7 4).2.1 (TX7 4).2.2.1) := ⟨List.mem_of_getElem? (i := 114) (by decide +kernel), by decide +kernel⟩
theorem tw_115 : e_nin (.fieldLinkNest RX11 297 (TX7 4).1 (TX7 4).2.1 (TX7 4).2.2.1 "SideVersions") := ⟨List.mem_of_getElem? (i := 115) (by decide +kernel), by decide +kernel⟩
theorem tw_116 : e_in (.fieldLink RX7 43 (TX7 5).1 (TX7 5).2.1 (TX7 5).2.2.1) := ⟨List.mem_of_getElem? (i := 116) (by decide +kernel), by decide +kernel⟩
theorem tw_117 : e_nin (.fieldLinkNest RX11 89 (TX7 5).1 (TX7 5).2.1 (TX7 5).2.2.1 "SideVersions") := ⟨List.mem_of_getElem? (i := 117) (by decide +kernel), by decide +kernel⟩
theorem tw_131 : e_in (.classLink RX11 23 RX4) := ⟨List.mem_of_getElem? (i := 131) (by decide +kernel), by decide +kernel⟩
theorem tw_132 : e_nin (.arrayOver (.object RX4)) := ⟨List.mem_of_getElem? (i := 132) (by decide +kernel), by decide +kernel⟩
theorem tw_133 : e_in (.classLink RX11 29 RX0) := ⟨List.mem_of_getElem? (i := 133) (by decide +kernel), by decide +kernel⟩
theorem tw_134 : e_nin (.arrayOver (.object RX0)) := ⟨List.mem_of_getElem? (i := 134) (by decide +kernel), by decide +kernel⟩
theorem tw_135 : e_in (.classLink RX11 35 RX5) := ⟨List.mem_of_getElem? (i := 135) (by decide +kernel), by decide +kernel⟩
theorem tw_136 : e_in (.instantiable RX5 3) := ⟨List.mem_of_getElem? (i := 136) (by decide +kernel), by decide +kernel⟩
theorem tw_137 : e_nin (.methodLinkNest RX11 37 yX5_init "SideVersions") := ⟨List.mem_of_getElem? (i := 137) (by decide +kernel), by decide +kernel⟩
theorem tw_138 : e_in (.instanceMethod yX5_init) := ⟨List.mem_of_getElem? (i := 138) (by decide +kernel), by decide +kernel⟩
theorem tw_139 : e_in (.code yX5_init cX5_init 1 none) := ⟨List.mem_of_getElem? (i := 139) (by decide +kernel), by decide +kernel⟩
theorem tw_140 : e_in (.methodLink RX5 3 Lib.objectInit) := ⟨List.mem_of_getElem? (i := 140) (by decide +kernel), by decide +kernel⟩
theorem tw_141 : e_in (.fieldLink RX5 9 (TX5 0).1 (TX5 0).2.1 (TX5 0).2.2.1) := ⟨List.mem_of_getElem? (i := 141) (by decide +kernel), by decide +kernel⟩
theorem tw_142 : e_in (.fieldLink RX5 15 (TX5 1).1 (TX5 1).2.1 (TX5 1).2.2.1) := ⟨List.mem_of_getElem? (i := 142) (by decide +kernel), by decide +kernel⟩
theorem tw_143 : e_in (.fieldLink RX5 18 (TX5 2).1 (TX5 2).2.1 (TX5 2).2.2.1) := ⟨List.mem_of_getElem? (i := 143) (by decide +kernel), by decide +kernel⟩
theorem tw_151 : e_in (.classLink RX11 42 RX6) := ⟨List.mem_of_getElem? (i := 151) (by decide +kernel), by decide +kernel⟩
theorem tw_152 : e_in (.instantiable RX6 4) := ⟨List.mem_of_getElem? (i := 152) (by decide +kernel), by decide +kernel⟩
theorem tw_153 : e_nin (.methodLinkNest RX11 44 yX6_init "SideVersions") := ⟨List.mem_of_getElem? (i := 153) (by decide +kernel), by decide +kernel⟩
theorem tw_154 : e_in (.instanceMethod yX6_init) := ⟨List.mem_of_getElem? (i := 154) (by decide +kernel), by decide +kernel⟩
theorem tw_155 : e_in (.code yX6_init cX6_init 1 none) := ⟨List.mem_of_getElem? (i := 155) (by decide +kernel), by decide +kernel⟩
theorem tw_156 : e_in (.methodLink RX6 5 Lib.objectInit) := ⟨List.mem_of_getElem? (i := 156) (by decide +kernel), by decide +kernel⟩
theorem tw_157 : e_in (.fieldLink RX6 11 (TX6 0).1 (TX6 0).2.1 (TX6 0).2.2.1) := ⟨List.mem_of_getElem? (i := 157) (by decide +kernel), by decide +kernel⟩
theorem tw_158 : e_in (.fieldLink RX6 15 (TX6 1).1 (TX6 1).2.1 (TX6 1).2.2.1) := ⟨List.mem_of_getElem? (i := 158) (by decide +kernel), by decide +kernel⟩
theorem tw_159 : e_in (.fieldLink RX6 22 (TX6 2).1 (TX6 2).2.1 (TX6 2).2.2.1) := ⟨List.mem_of_getElem? (i := 159) (by decide +kernel), by decide +kernel⟩
theorem tw_160 : e_nin (.fieldLinkNest RX11 179 (TX6 2).1 (TX6 2).2.1 (TX6 2).2.2.1 "SideVersions") := ⟨List.mem_of_getElem? (i := 160) (by decide +kernel), by decide +kernel⟩
theorem tw_161 : e_in (.fieldLink RX6 18 (TX6 3).1 (TX6 3).2.1 (TX6 3).2.2.1) := ⟨List.mem_of_getElem? (i := 161) (by decide +kernel), by decide +kernel⟩
theorem tw_162 : e_nin (.fieldLinkNest RX11 175 (TX6 3).1 (TX6 3).2.1 (TX6 3).2.2.1 "SideVersions") := ⟨List.mem_of_getElem? (i := 162) (by decide +kernel), by decide +kernel⟩
theorem tw_172 : e_in (.classLink RX11 49 RX2) := ⟨List.mem_of_getElem? (i := 172) (by decide +kernel), by decide +kernel⟩
theorem tw_173 : e_in (.instantiable RX2 3) := ⟨List.mem_of_getElem? (i := 173) (by decide +kernel), by decide +kernel⟩
theorem tw_174 : e_nin (.methodLinkNest RX11 51 yX2_init "SideVersions") := ⟨List.mem_of_getElem? (i := 174) (by decide +kernel), by decide +kernel⟩
theorem tw_175 : e_in (.instanceMethod yX2_init) := ⟨List.mem_of_getElem? (i := 175) (by decide +kernel), by decide +kernel⟩
theorem tw_176 : e_in (.code yX2_init cX2_init 1 none) := ⟨List.mem_of_getElem? (i := 176) (by decide +kernel), by decide +kernel⟩
theorem tw_177 : e_in (.methodLink RX2 3 Lib.objectInit) := ⟨List.mem_of_getElem? (i := 177) (by decide +kernel), by decide +kernel⟩
theorem tw_178 : e_in (.fieldLink RX2 9 (TX2 0).1 (TX2 0).2.1 (TX2 0).2.2.1) := ⟨List.mem_of_getElem? (i := 178) (by decide +kernel), by decide +kernel⟩
theorem tw_179 : e_in (.fieldLink RX2 21 (TX2 1).1 (TX2 1).2.1 (TX2 1).2.2.1) := ⟨List.mem_of_getElem? (i := 179) (by decide +kernel), by decide +kernel⟩
theorem tw_180 : e_in (.fieldLink RX2 35 (TX2 2).1 (TX2 2).2.1 (TX2 2).2.2.1) := ⟨List.mem_of_getElem? (i := 180) (by decide +kernel), by decide +kernel⟩
theorem tw_188 : e_in (.instantiable RX4 2) := ⟨List.mem_of_getElem? (i := 188) (by decide +kernel), by decide +kernel⟩
theorem tw_189 : e_in (.methodLink RX11 66 yX4_init) := ⟨List.mem_of_getElem? (i := 189) (by decide +kernel), by decide +kernel⟩
theorem tw_190 : e_in (.instanceMethod yX4_init) := ⟨List.mem_of_getElem? (i := 190) (by decide +kernel), by decide +kernel⟩
theorem tw_191 : e_in (.code yX4_init cX4_init 2 none) := ⟨List.mem_of_getElem? (i := 191) (by decide +kernel), by decide +kernel⟩
theorem tw_192 : e_in (.methodLink RX4 3 Lib.objectInit) := ⟨List.mem_of_getElem? (i := 192) (by decide +kernel), by decide +kernel⟩
theorem tw_193 : e_in (.classLink RX4 9 RX3) := ⟨List.mem_of_getElem? (i := 193) (by decide +kernel), by decide +kernel⟩
theorem tw_194 : e_in (.instantiable RX3 11) := ⟨List.mem_of_getElem? (i := 194) (by decide +kernel), by decide +kernel⟩
theorem tw_195 : e_nin (.methodLinkNest RX4 11 yX3_init "SideVersions") := ⟨List.mem_of_getElem? (i := 195) (by decide +kernel), by decide +kernel⟩
theorem tw_196 : e_in (.instanceMethod yX3_init) := ⟨List.mem_of_getElem? (i := 196) (by decide +kernel), by decide +kernel⟩
theorem tw_197 : e_in (.code yX3_init cX3_init 1 none) := ⟨List.mem_of_getElem? (i := 197) (by decide +kernel), by decide +kernel⟩
theorem tw_198 : e_in (.methodLink RX3 3 Lib.objectInit) := ⟨List.mem_of_getElem? (i := 198) (by decide +kernel), by decide +kernel⟩
theorem tw_199 : e_in (.classLink RX3 25 RX1) := ⟨List.mem_of_getElem? (i := 199) (by decide +kernel), by decide +kernel⟩
theorem tw_200 : e_in (.instantiable RX1 1) := ⟨List.mem_of_getElem? (i := 200) (by decide +kernel), by decide +kernel⟩
theorem tw_201 : e_nin (.methodLinkNest RX3 27 yX1_init "SideVersions") := ⟨List.mem_of_getElem? (i := 201) (by decide +kernel), by decide +kernel⟩
theorem tw_202 : e_in (.instanceMethod yX1_init) := ⟨List.mem_of_getElem? (i := 202) (by decide +kernel), by decide +kernel⟩
theorem tw_203 : e_in (.code yX1_init cX1_init 1 none) := ⟨List.mem_of_getElem? (i := 203) (by decide +kernel), by decide +kernel⟩
theorem tw_204 : e_in (.methodLink RX1 3 Lib.objectInit) := ⟨List.mem_of_getElem? (i := 204) (by decide +kernel), by decide +kernel⟩
theorem tw_205 : e_in (.fieldLink RX1 9 (TX1 0).1 (TX1 0).2.1 (TX1 0).2.2.1) := ⟨List.mem_of_getElem? (i := 205) (by decide +kernel), by decide +kernel⟩
theorem tw_209 : e_in (.arrayClass .long) := ⟨List.mem_of_getElem? (i := 209) (by decide +kernel), by decide +kernel⟩
theorem tw_210 : e_in (.fieldLink RX3 9 (TX3 0).1 (TX3 0).2.1 (TX3 0).2.2.1) := ⟨List.mem_of_getElem? (i := 210) (by decide +kernel), by decide +kernel⟩
theorem tw_211 : e_in (.fieldLink RX3 15 (TX3 1).1 (TX3 1).2.1 (TX3 1).2.2.1) := ⟨List.mem_of_getElem? (i := 211) (by decide +kernel), by decide +kernel⟩
theorem tw_212 : e_in (.fieldLink RX3 19 (TX3 2).1 (TX3 2).2.1 (TX3 2).2.2.1) := ⟨List.mem_of_getElem? (i := 212) (by decide +kernel), by decide +kernel⟩
theorem tw_213 : e_in (.fieldLink RX3 22 (TX3 3).1 (TX3 3).2.1 (TX3 3).2.2.1) := ⟨List.mem_of_getElem? (i := 213) (by decide +kernel), by decide +kernel⟩
theorem tw_214 : e_in (.fieldLink RX3 28 (TX3 4).1 (TX3 4).2.1 (TX3 4).2.2.1) := ⟨List.mem_of_getElem? (i := 214) (by decide +kernel), by decide +kernel⟩
theorem tw_215 : e_nin (.fieldLinkNest RX11 124 (TX3 4).1 (TX3 4).2.1 (TX3 4).2.2.1 "SideVersions") := ⟨List.mem_of_getElem? (i := 215) (by decide +kernel), by decide +kernel⟩
theorem tw_216 : e_nin (.fieldLinkNest RX4 58 (TX3 4).1 (TX3 4).2.1 (TX3 4).2.2.1 "SideVersions") := ⟨List.mem_of_getElem? (i := 216) (by decide +kernel), by decide +kernel⟩
theorem tw_217 : e_nin (.fieldLinkNest RX8 116 (TX3 4).1 (TX3 4).2.1 (TX3 4).2.2.1 "SideVersions") := ⟨List.mem_of_getElem? (i := 217) (by decide +kernel), by decide +kernel⟩
theorem tw_218 : e_in (.fieldLink RX3 32 (TX3 5).1 (TX3 5).2.1 (TX3 5).2.2.1) := ⟨List.mem_of_getElem? (i := 218) (by decide +kernel), by decide +kernel⟩
theorem tw_219 : e_nin (.fieldLinkNest RX8 91 (TX3 5).1 (TX3 5).2.1 (TX3 5).2.2.1 "SideVersions") := ⟨List.mem_of_getElem? (i := 219) (by decide +kernel), by decide +kernel⟩
theorem tw_220 : e_nin (.fieldLinkNest RX11 235 (TX3 5).1 (TX3 5).2.1 (TX3 5).2.2.1 "SideVersions") := ⟨List.mem_of_getElem? (i := 220) (by decide +kernel), by decide +kernel⟩
theorem tw_221 : e_in (.fieldLink RX3 35 (TX3 6).1 (TX3 6).2.1 (TX3 6).2.2.1) := ⟨List.mem_of_getElem? (i := 221) (by decide +kernel), by decide +kernel⟩
theorem tw_222 : e_nin (.fieldLinkNest RX8 36 (TX3 6).1 (TX3 6).2.1 (TX3 6).2.2.1 "SideVersions") := ⟨List.mem_of_getElem? (i := 222) (by decide +kernel), by decide +kernel⟩
theorem tw_223 : e_nin (.fieldLinkNest RX11 238 (TX3 6).1 (TX3 6).2.1 (TX3 6).2.2.1 "SideVersions") := ⟨List.mem_of_getElem? (i := 223) (by decide +kernel), by decide +kernel⟩
theorem tw_224 : e_in (.fieldLink RX3 38 (TX3 7).1 (TX3 7).2.1 (TX3 7).2.2.1) := ⟨List.mem_of_getElem? (i := 224) (by decide +kernel), by decide +kernel⟩
theorem tw_225 : e_nin (.fieldLinkNest RX8 123 (TX3 7).1 (TX3 7).2.1 (TX3 7).2.2.1 "SideVersions") := ⟨List.mem_of_getElem? (i := 225) (by decide +kernel), by decide +kernel⟩
theorem tw_226 : e_nin (.fieldLinkNest RX11 241 (TX3 7).1 (TX3 7).2.1 (TX3 7).2.2.1 "SideVersions") := ⟨List.mem_of_getElem? (i := 226) (by decide +kernel), by decide +kernel⟩
theorem tw_227 : e_in (.fieldLink RX3 41 (TX3 8).1 (TX3 8).2.1 (TX3 8).2.2.1) := ⟨List.mem_of_getElem? (i := 227) (by decide +kernel), by decide +kernel⟩
theorem tw_228 : e_nin (.fieldLinkNest RX11 144 (TX3 8).1 (TX3 8).2.1 (TX3 8).2.2.1 "SideVersions") := ⟨List.mem_of_getElem? (i := 228) (by decide +kernel), by decide +kernel⟩
theorem tw_229 : e_nin (.fieldLinkNest RX8 94 (TX3 8).1 (TX3 8).2.1 (TX3 8).2.2.1 "SideVersions") := ⟨List.mem_of_getElem? (i := 229) (by decide +kernel), by decide +kernel⟩
theorem tw_230 : e_in (.fieldLink RX3 45 (TX3 9).1 (TX3 9).2.1 (TX3 9).2.2.1) := ⟨List.mem_of_getElem? (i := 230) (by decide +kernel), by decide +kernel⟩
theorem tw_231 : e_nin (.fieldLinkNest RX11 282 (TX3 9).1 (TX3 9).2.1 (TX3 9).2.2.1 "SideVersions") := ⟨List.mem_of_getElem? (i := 231) (by decide +kernel), by decide +kernel⟩
theorem tw_232 : e_in (.fieldLink RX3 48 (TX3 10).1 (TX3 10).2.1 (TX3 10).2.2.1) := ⟨List.mem_of_getElem? (i := 232) (by decide +kernel), by decide +kernel⟩
theorem tw_233 : e_nin (.fieldLinkNest RX8 49 (TX3 10).1 (TX3 10).2.1 (TX3 10).2.2.1 "SideVersions") := ⟨List.mem_of_getElem? (i := 233) (by decide +kernel), by decide +kernel⟩
theorem tw_234 : e_nin (.fieldLinkNest RX11 288 (TX3 10).1 (TX3 10).2.1 (TX3 10).2.2.1 "SideVersions") := ⟨List.mem_of_getElem? (i := 234) (by decide +kernel), by decide +kernel⟩
theorem tw_258 : e_in (.classLink RX4 18 RX8) := ⟨List.mem_of_getElem? (i := 258) (by decide +kernel), by decide +kernel⟩
theorem tw_259 : e_nin (.arrayOver (.object RX8)) := ⟨List.mem_of_getElem? (i := 259) (by decide +kernel), by decide +kernel⟩
theorem tw_260 : e_in (.instantiable RX8 4) := ⟨List.mem_of_getElem? (i := 260) (by decide +kernel), by decide +kernel⟩
theorem tw_261 : e_in (.methodLink RX4 24 yX8_init) := ⟨List.mem_of_getElem? (i := 261) (by decide +kernel), by decide +kernel⟩
theorem tw_262 : e_in (.instanceMethod yX8_init) := ⟨List.mem_of_getElem? (i := 262) (by decide +kernel), by decide +kernel⟩
theorem tw_263 : e_in (.code yX8_init cX8_init 3 none) := ⟨List.mem_of_getElem? (i := 263) (by decide +kernel), by decide +kernel⟩
theorem tw_264 : e_in (.methodLink RX8 1 Lib.objectInit) := ⟨List.mem_of_getElem? (i := 264) (by decide +kernel), by decide +kernel⟩
theorem tw_265 : e_in (.classLink RX8 7 RX1) := ⟨List.mem_of_getElem? (i := 265) (by decide +kernel), by decide +kernel⟩
theorem tw_266 : e_nin (.methodLinkNest RX8 9 yX1_init "SideVersions") := ⟨List.mem_of_getElem? (i := 266) (by decide +kernel), by decide +kernel⟩
theorem tw_267 : e_in (.fieldLink RX8 16 (TX8 0).1 (TX8 0).2.1 (TX8 0).2.2.1) := ⟨List.mem_of_getElem? (i := 267) (by decide +kernel), by decide +kernel⟩
theorem tw_268 : e_in (.fieldLink RX8 20 (TX8 1).1 (TX8 1).2.1 (TX8 1).2.2.1) := ⟨List.mem_of_getElem? (i := 268) (by decide +kernel), by decide +kernel⟩
theorem tw_269 : e_nin (.fieldLinkNest RX11 111 (TX8 1).1 (TX8 1).2.1 (TX8 1).2.2.1 "SideVersions") := ⟨List.mem_of_getElem? (i := 269) (by decide +kernel), by decide +kernel⟩
theorem tw_270 : e_in (.fieldLink RX8 10 (TX8 2).1 (TX8 2).2.1 (TX8 2).2.2.1) := ⟨List.mem_of_getElem? (i := 270) (by decide +kernel), by decide +kernel⟩
theorem tw_271 : e_nin (.fieldLinkNest RX4 43 (TX8 2).1 (TX8 2).2.1 (TX8 2).2.2.1 "SideVersions") := ⟨List.mem_of_getElem? (i := 271) (by decide +kernel), by decide +kernel⟩
theorem tw_272 : e_nin (.fieldLinkNest RX11 128 (TX8 2).1 (TX8 2).2.1 (TX8 2).2.2.1 "SideVersions") := ⟨List.mem_of_getElem? (i := 272) (by decide +kernel), by decide +kernel⟩
theorem tw_273 : e_in (.fieldLink RX8 24 (TX8 3).1 (TX8 3).2.1 (TX8 3).2.2.1) := ⟨List.mem_of_getElem? (i := 273) (by decide +kernel), by decide +kernel⟩
theorem tw_274 : e_nin (.fieldLinkNest RX4 33 (TX8 3).1 (TX8 3).2.1 (TX8 3).2.2.1 "SideVersions") := ⟨List.mem_of_getElem? (i := 274) (by decide +kernel), by decide +kernel⟩
theorem tw_275 : e_nin (.fieldLinkNest RX11 103 (TX8 3).1 (TX8 3).2.1 (TX8 3).2.2.1 "SideVersions") := ⟨List.mem_of_getElem? (i := 275) (by decide +kernel), by decide +kernel⟩
theorem tw_285 : e_in (.fieldLink RX4 12 (TX4 0).1 (TX4 0).2.1 (TX4 0).2.2.1) := ⟨List.mem_of_getElem? (i := 285) (by decide +kernel), by decide +kernel⟩
theorem tw_286 : e_nin (.fieldLinkNest RX11 227 (TX4 0).1 (TX4 0).2.1 (TX4 0).2.2.1 "SideVersions") := ⟨List.mem_of_getElem? (i := 286) (by decide +kernel), by decide +kernel⟩
theorem tw_287 : e_in (.fieldLink RX4 20 (TX4 1).1 (TX4 1).2.1 (TX4 1).2.2.1) := ⟨List.mem_of_getElem? (i := 287) (by decide +kernel), by decide +kernel⟩
theorem tw_293 : e_in (.instantiable RX0 3) := ⟨List.mem_of_getElem? (i := 293) (by decide +kernel), by decide +kernel⟩
theorem tw_294 : e_nin (.methodLinkNest RX11 67 yX0_init "SideVersions") := ⟨List.mem_of_getElem? (i := 294) (by decide +kernel), by decide +kernel⟩
theorem tw_295 : e_in (.instanceMethod yX0_init) := ⟨List.mem_of_getElem? (i := 295) (by decide +kernel), by decide +kernel⟩
theorem tw_296 : e_in (.code yX0_init cX0_init 1 none) := ⟨List.mem_of_getElem? (i := 296) (by decide +kernel), by decide +kernel⟩
theorem tw_297 : e_in (.methodLink RX0 1 Lib.objectInit) := ⟨List.mem_of_getElem? (i := 297) (by decide +kernel), by decide +kernel⟩
theorem tw_298 : e_in (.fieldLink RX0 9 (TX0 0).1 (TX0 0).2.1 (TX0 0).2.2.1) := ⟨List.mem_of_getElem? (i := 298) (by decide +kernel), by decide +kernel⟩
theorem tw_299 : e_nin (.fieldLinkNest RX11 100 (TX0 0).1 (TX0 0).2.1 (TX0 0).2.2.1 "SideVersions") := ⟨List.mem_of_getElem? (i := 299) (by decide +kernel), by decide +kernel⟩
theorem tw_300 : e_in (.fieldLink RX0 13 (TX0 1).1 (TX0 1).2.1 (TX0 1).2.2.1) := ⟨List.mem_of_getElem? (i := 300) (by decide +kernel), by decide +kernel⟩
theorem tw_301 : e_nin (.fieldLinkNest RX11 108 (TX0 1).1 (TX0 1).2.1 (TX0 1).2.2.1 "SideVersions") := ⟨List.mem_of_getElem? (i := 301) (by decide +kernel), by decide +kernel⟩
theorem tw_302 : e_in (.fieldLink RX0 16 (TX0 2).1 (TX0 2).2.1 (TX0 2).2.2.1) := ⟨List.mem_of_getElem? (i := 302) (by decide +kernel), by decide +kernel⟩
theorem tw_303 : e_nin (.fieldLinkNest RX11 121 (TX0 2).1 (TX0 2).2.1 (TX0 2).2.2.1 "SideVersions") := ⟨List.mem_of_getElem? (i := 303) (by decide +kernel), by decide +kernel⟩
theorem tw_311 : e_in (.fieldLink RX11 12 (TX11 0).1 (TX11 0).2.1 (TX11 0).2.2.1) := ⟨List.mem_of_getElem? (i := 311) (by decide +kernel), by decide +kernel⟩
theorem tw_312 : e_in (.fieldLink RX11 19 (TX11 1).1 (TX11 1).2.1 (TX11 1).2.2.1) := ⟨List.mem_of_getElem? (i := 312) (by decide +kernel), by decide +kernel⟩
theorem tw_313 : e_in (.fieldLink RX11 25 (TX11 2).1 (TX11 2).2.1 (TX11 2).2.2.1) := ⟨List.mem_of_getElem? (i := 313) (by decide +kernel), by decide +kernel⟩
theorem tw_314 : e_in (.fieldLink RX11 31 (TX11 3).1 (TX11 3).2.1 (TX11 3).2.2.1) := ⟨List.mem_of_getElem? (i := 314) (by decide +kernel), by decide +kernel⟩
theorem tw_315 : e_in (.fieldLink RX11 38 (TX11 4).1 (TX11 4).2.1 (TX11 4).2.2.1) := ⟨List.mem_of_getElem? (i := 315) (by decide +kernel), by decide +kernel⟩
theorem tw_316 : e_in (.fieldLink RX11 45 (TX11 5).1 (TX11 5).2.1 (TX11 5).2.2.1) := ⟨List.mem_of_getElem? (i := 316) (by decide +kernel), by decide +kernel⟩
theorem tw_317 : e_in (.fieldLink RX11 52 (TX11 6).1 (TX11 6).2.1 (TX11 6).2.2.1) := ⟨List.mem_of_getElem? (i := 317) (by decide +kernel), by decide +kernel⟩
theorem tw_318 : e_in (.fieldLink RX11 56 (TX11 7).1 (TX11 7).2.1 (TX11 7).2.2.1) := ⟨List.mem_of_getElem? (i := 318) (by decide +kernel), by decide +kernel⟩
theorem tw_319 : e_in (.fieldLink RX11 60 (TX11 8).1 (TX11 8).2.1 (TX11 8).2.2.1) := ⟨List.mem_of_getElem? (i := 319) (by decide +kernel), by decide +kernel⟩
theorem tw_320 : e_in (.fieldLink RX11 63 (TX11 9).1 (TX11 9).2.1 (TX11 9).2.2.1) := ⟨List.mem_of_getElem? (i := 320) (by decide +kernel), by decide +kernel⟩
theorem tw_321 : e_in (.fieldLink RX11 291 (TX11 10).1 (TX11 10).2.1 (TX11 10).2.2.1) := ⟨List.mem_of_getElem? (i := 321) (by decide +kernel), by decide +kernel⟩
theorem tw_322 : e_in (.fieldLink RX11 147 (TX11 11).1 (TX11 11).2.1 (TX11 11).2.2.1) := ⟨List.mem_of_getElem? (i := 322) (by decide +kernel), by decide +kernel⟩
theorem tw_348 : e_in (.methodLink RL 13 yX11_type) := ⟨List.mem_of_getElem? (i := 348) (by decide +kernel), by decide +kernel⟩
theorem tw_349 : e_in (.instanceMethod yX11_type) := ⟨List.mem_of_getElem? (i := 349) (by decide +kernel), by decide +kernel⟩
theorem tw_350 : e_in (.selects RX11 yX11_type yX11_type) := ⟨List.mem_of_getElem? (i := 350) (by decide +kernel), by decide +kernel⟩
theorem tw_351 : e_in (.code yX11_type cX11_type 2 (some .int)) := ⟨List.mem_of_getElem? (i := 351) (by decide +kernel), by decide +kernel⟩
theorem tw_352 : e_in (.methodLink RX11 68 yX10_isFull) := ⟨List.mem_of_getElem? (i := 352) (by decide +kernel), by decide +kernel⟩
theorem tw_353 : e_in (.instanceMethod yX10_isFull) := ⟨List.mem_of_getElem? (i := 353) (by decide +kernel), by decide +kernel⟩
theorem tw_354 : e_in (.selects RX10 yX10_isFull yX10_isFull) := ⟨List.mem_of_getElem? (i := 354) (by decide +kernel), by decide +kernel⟩
theorem tw_355 : e_in (.code yX10_isFull cX10_isFull 1 (some .boolean)) := ⟨List.mem_of_getElem? (i := 355) (by decide +kernel), by decide +kernel⟩
theorem tw_356 : e_in (.methodLink RX11 72 yX10_append) := ⟨List.mem_of_getElem? (i := 356) (by decide +kernel), by decide +kernel⟩
theorem tw_357 : e_in (.instanceMethod yX10_append) := ⟨List.mem_of_getElem? (i := 357) (by decide +kernel), by decide +kernel⟩
theorem tw_358 : e_in (.selects RX10 yX10_append yX10_append) := ⟨List.mem_of_getElem? (i := 358) (by decide +kernel), by decide +kernel⟩
theorem tw_359 : e_in (.code yX10_append cX10_append 2 none) := ⟨List.mem_of_getElem? (i := 359) (by decide +kernel), by decide +kernel⟩
theorem tw_360 : e_in (.methodLink RL 18 yX11_clear) := ⟨List.mem_of_getElem? (i := 360) (by decide +kernel), by decide +kernel⟩
theorem tw_361 : e_in (.instanceMethod yX11_clear) := ⟨List.mem_of_getElem? (i := 361) (by decide +kernel), by decide +kernel⟩
theorem tw_362 : e_in (.selects RX11 yX11_clear yX11_clear) := ⟨List.mem_of_getElem? (i := 362) (by decide +kernel), by decide +kernel⟩
theorem tw_363 : e_in (.code yX11_clear cX11_clear 2 (some .int)) := ⟨List.mem_of_getElem? (i := 363) (by decide +kernel), by decide +kernel⟩
theorem tw_364 : e_in (.methodLink RX11 79 yX10_empty) := ⟨List.mem_of_getElem? (i := 364) (by decide +kernel), by decide +kernel⟩
theorem tw_365 : e_in (.instanceMethod yX10_empty) := ⟨List.mem_of_getElem? (i := 365) (by decide +kernel), by decide +kernel⟩
theorem tw_366 : e_in (.selects RX10 yX10_empty yX10_empty) := ⟨List.mem_of_getElem? (i := 366) (by decide +kernel), by decide +kernel⟩
theorem tw_367 : e_in (.code yX10_empty cX10_empty 1 none) := ⟨List.mem_of_getElem? (i := 367) (by decide +kernel), by decide +kernel⟩
theorem tw_368 : e_in (.methodLink RL 23 yX11_tells) := ⟨List.mem_of_getElem? (i := 368) (by decide +kernel), by decide +kernel⟩
theorem tw_369 : e_in (.instanceMethod yX11_tells) := ⟨List.mem_of_getElem? (i := 369) (by decide +kernel), by decide +kernel⟩
theorem tw_370 : e_in (.selects RX11 yX11_tells yX11_tells) := ⟨List.mem_of_getElem? (i := 370) (by decide +kernel), by decide +kernel⟩
theorem tw_371 : e_in (.code yX11_tells cX11_tells 2 (some .int)) := ⟨List.mem_of_getElem? (i := 371) (by decide +kernel), by decide +kernel⟩
theorem tw_372 : e_in (.methodLink RX11 82 yX7_fill) := ⟨List.mem_of_getElem? (i := 372) (by decide +kernel), by decide +kernel⟩
theorem tw_373 : e_in (.instanceMethod yX7_fill) := ⟨List.mem_of_getElem? (i := 373) (by decide +kernel), by decide +kernel⟩
theorem tw_374 : e_in (.selects RX7 yX7_fill yX7_fill) := ⟨List.mem_of_getElem? (i := 374) (by decide +kernel), by decide +kernel⟩
theorem tw_375 : e_in (.code yX7_fill cX7_fill 3 (some .int)) := ⟨List.mem_of_getElem? (i := 375) (by decide +kernel), by decide +kernel⟩
theorem tw_376 : e_in (.methodLink RX7 15 yX7_forget) := ⟨List.mem_of_getElem? (i := 376) (by decide +kernel), by decide +kernel⟩
theorem tw_378 : e_in (.instanceMethod yX7_forget) := ⟨List.mem_of_getElem? (i := 378) (by decide +kernel), by decide +kernel⟩
theorem tw_379 : e_in (.code yX7_forget cX7_forget 1 none) := ⟨List.mem_of_getElem? (i := 379) (by decide +kernel), by decide +kernel⟩
theorem tw_380 : e_in (.methodLink RX7 18 yX10_rewind) := ⟨List.mem_of_getElem? (i := 380) (by decide +kernel), by decide +kernel⟩
theorem tw_381 : e_in (.instanceMethod yX10_rewind) := ⟨List.mem_of_getElem? (i := 381) (by decide +kernel), by decide +kernel⟩
theorem tw_382 : e_in (.selects RX10 yX10_rewind yX10_rewind) := ⟨List.mem_of_getElem? (i := 382) (by decide +kernel), by decide +kernel⟩
theorem tw_383 : e_in (.code yX10_rewind cX10_rewind 1 none) := ⟨List.mem_of_getElem? (i := 383) (by decide +kernel), by decide +kernel⟩
theorem tw_384 : e_in (.methodLink RX7 23 yX10_step) := ⟨List.mem_of_getElem? (i := 384) (by decide +kernel), by decide +kernel⟩
theorem tw_385 : e_in (.instanceMethod yX10_step) := ⟨List.mem_of_getElem? (i := 385) (by decide +kernel), by decide +kernel⟩
theorem tw_386 : e_in (.selects RX10 yX10_step yX10_step) := ⟨List.mem_of_getElem? (i := 386) (by decide +kernel), by decide +kernel⟩
theorem tw_387 : e_in (.code yX10_step cX10_step 2 none) := ⟨List.mem_of_getElem? (i := 387) (by decide +kernel), by decide +kernel⟩
theorem tw_388 : e_in (.methodLink RX10 25 yX10_sortAt) := ⟨List.mem_of_getElem? (i := 388) (by decide +kernel), by decide +kernel⟩
theorem tw_390 : e_in (.instanceMethod yX10_sortAt) := ⟨List.mem_of_getElem? (i := 390) (by decide +kernel), by decide +kernel⟩
theorem tw_391 : e_in (.code yX10_sortAt cX10_sortAt 3 (some .int)) := ⟨List.mem_of_getElem? (i := 391) (by decide +kernel), by decide +kernel⟩
theorem tw_392 : e_in (.methodLink RX10 43 yX10_byteAt) := ⟨List.mem_of_getElem? (i := 392) (by decide +kernel), by decide +kernel⟩
theorem tw_394 : e_in (.instanceMethod yX10_byteAt) := ⟨List.mem_of_getElem? (i := 394) (by decide +kernel), by decide +kernel⟩
theorem tw_395 : e_in (.code yX10_byteAt cX10_byteAt 2 (some .int)) := ⟨List.mem_of_getElem? (i := 395) (by decide +kernel), by decide +kernel⟩
theorem tw_396 : e_in (.methodLink RX10 32 Lib.Math.min.name) := ⟨List.mem_of_getElem? (i := 396) (by decide +kernel), by decide +kernel⟩
theorem tw_397 : e_in (.static Lib.Math.min.name) := ⟨List.mem_of_getElem? (i := 397) (by decide +kernel), by decide +kernel⟩
theorem tw_398 : e_in (.code Lib.Math.min.name Lib.Math.min.code 2 (some .int)) := ⟨List.mem_of_getElem? (i := 398) (by decide +kernel), by decide +kernel⟩
theorem tw_399 : e_in (.methodLink RX7 30 yX7_putUsual) := ⟨List.mem_of_getElem? (i := 399) (by decide +kernel), by decide +kernel⟩
theorem tw_401 : e_in (.instanceMethod yX7_putUsual) := ⟨List.mem_of_getElem? (i := 401) (by decide +kernel), by decide +kernel⟩
theorem tw_402 : e_in (.code yX7_putUsual cX7_putUsual 1 none) := ⟨List.mem_of_getElem? (i := 402) (by decide +kernel), by decide +kernel⟩
theorem tw_403 : e_in (.methodLink RX7 33 yX7_takesWords) := ⟨List.mem_of_getElem? (i := 403) (by decide +kernel), by decide +kernel⟩
theorem tw_405 : e_in (.instanceMethod yX7_takesWords) := ⟨List.mem_of_getElem? (i := 405) (by decide +kernel), by decide +kernel⟩
theorem tw_406 : e_in (.code yX7_takesWords cX7_takesWords 2 (some .boolean)) := ⟨List.mem_of_getElem? (i := 406) (by decide +kernel), by decide +kernel⟩
theorem tw_408 : e_in (.methodLink RX7 60 yX10_isWord) := ⟨List.mem_of_getElem? (i := 408) (by decide +kernel), by decide +kernel⟩
theorem tw_409 : e_in (.instanceMethod yX10_isWord) := ⟨List.mem_of_getElem? (i := 409) (by decide +kernel), by decide +kernel⟩
theorem tw_410 : e_in (.selects RX10 yX10_isWord yX10_isWord) := ⟨List.mem_of_getElem? (i := 410) (by decide +kernel), by decide +kernel⟩
theorem tw_411 : e_in (.code yX10_isWord cX10_isWord 3 (some .boolean)) := ⟨List.mem_of_getElem? (i := 411) (by decide +kernel), by decide +kernel⟩
theorem tw_412 : e_in (.methodLink RX10 38 yJ0_length_8abf5) := ⟨List.mem_of_getElem? (i := 412) (by decide +kernel), by decide +kernel⟩
theorem tw_413 : e_in (.instanceMethod yJ0_length_8abf5) := ⟨List.mem_of_getElem? (i := 413) (by decide +kernel), by decide +kernel⟩
theorem tw_414 : e_in (.selects RJ0 yJ0_length_8abf5 yJ0_length_8abf5) := ⟨List.mem_of_getElem? (i := 414) (by decide +kernel), by decide +kernel⟩
theorem tw_415 : e_in (.code yJ0_length_8abf5 cJ0_length_8abf5 1 (some .int)) := ⟨List.mem_of_getElem? (i := 415) (by decide +kernel), by decide +kernel⟩
theorem tw_422 : e_in (.methodLink RX10 46 yJ0_charAt_5068e) := ⟨List.mem_of_getElem? (i := 422) (by decide +kernel), by decide +kernel⟩
theorem tw_423 : e_in (.instanceMethod yJ0_charAt_5068e) := ⟨List.mem_of_getElem? (i := 423) (by decide +kernel), by decide +kernel⟩
theorem tw_424 : e_in (.selects RJ0 yJ0_charAt_5068e yJ0_charAt_5068e) := ⟨List.mem_of_getElem? (i := 424) (by decide +kernel), by decide +kernel⟩
theorem tw_425 : e_in (.code yJ0_charAt_5068e cJ0_charAt_5068e 2 (some .char)) := ⟨List.mem_of_getElem? (i := 425) (by decide +kernel), by decide +kernel⟩
theorem tw_460 : e_in (.methodLink RX7 64 yX7_takesKey) := ⟨List.mem_of_getElem? (i := 460) (by decide +kernel), by decide +kernel⟩
theorem tw_462 : e_in (.instanceMethod yX7_takesKey) := ⟨List.mem_of_getElem? (i := 462) (by decide +kernel), by decide +kernel⟩
theorem tw_463 : e_in (.code yX7_takesKey cX7_takesKey 2 (some .boolean)) := ⟨List.mem_of_getElem? (i := 463) (by decide +kernel), by decide +kernel⟩
theorem tw_466 : e_in (.methodLink RX7 71 yX7_takenNumber) := ⟨List.mem_of_getElem? (i := 466) (by decide +kernel), by decide +kernel⟩
theorem tw_468 : e_in (.instanceMethod yX7_takenNumber) := ⟨List.mem_of_getElem? (i := 468) (by decide +kernel), by decide +kernel⟩
theorem tw_469 : e_in (.code yX7_takenNumber cX7_takenNumber 5 (some .int)) := ⟨List.mem_of_getElem? (i := 469) (by decide +kernel), by decide +kernel⟩
theorem tw_470 : e_in (.methodLink RX7 77 yX10_digit) := ⟨List.mem_of_getElem? (i := 470) (by decide +kernel), by decide +kernel⟩
theorem tw_471 : e_in (.instanceMethod yX10_digit) := ⟨List.mem_of_getElem? (i := 471) (by decide +kernel), by decide +kernel⟩
theorem tw_472 : e_in (.selects RX10 yX10_digit yX10_digit) := ⟨List.mem_of_getElem? (i := 472) (by decide +kernel), by decide +kernel⟩
theorem tw_473 : e_in (.code yX10_digit cX10_digit 1 (some .int)) := ⟨List.mem_of_getElem? (i := 473) (by decide +kernel), by decide +kernel⟩
theorem tw_476 : e_in (.methodLink RX7 37 yX7_takesSemicolon) := ⟨List.mem_of_getElem? (i := 476) (by decide +kernel), by decide +kernel⟩
theorem tw_478 : e_in (.instanceMethod yX7_takesSemicolon) := ⟨List.mem_of_getElem? (i := 478) (by decide +kernel), by decide +kernel⟩
theorem tw_479 : e_in (.code yX7_takesSemicolon cX7_takesSemicolon 2 (some .boolean)) := ⟨List.mem_of_getElem? (i := 479) (by decide +kernel), by decide +kernel⟩
theorem tw_480 : e_in (.methodLink RX11 86 yX11_beginAnew) := ⟨List.mem_of_getElem? (i := 480) (by decide +kernel), by decide +kernel⟩
theorem tw_482 : e_in (.instanceMethod yX11_beginAnew) := ⟨List.mem_of_getElem? (i := 482) (by decide +kernel), by decide +kernel⟩
theorem tw_483 : e_in (.code yX11_beginAnew cX11_beginAnew 2 none) := ⟨List.mem_of_getElem? (i := 483) (by decide +kernel), by decide +kernel⟩
theorem tw_484 : e_in (.methodLink RX11 298 yX7_kindOf) := ⟨List.mem_of_getElem? (i := 484) (by decide +kernel), by decide +kernel⟩
theorem tw_485 : e_in (.instanceMethod yX7_kindOf) := ⟨List.mem_of_getElem? (i := 485) (by decide +kernel), by decide +kernel⟩
theorem tw_486 : e_in (.selects RX7 yX7_kindOf yX7_kindOf) := ⟨List.mem_of_getElem? (i := 486) (by decide +kernel), by decide +kernel⟩
theorem tw_487 : e_in (.code yX7_kindOf cX7_kindOf 2 (some .int)) := ⟨List.mem_of_getElem? (i := 487) (by decide +kernel), by decide +kernel⟩
theorem tw_488 : e_in (.methodLink RX11 301 yX4_beginAnew) := ⟨List.mem_of_getElem? (i := 488) (by decide +kernel), by decide +kernel⟩
theorem tw_489 : e_in (.instanceMethod yX4_beginAnew) := ⟨List.mem_of_getElem? (i := 489) (by decide +kernel), by decide +kernel⟩
theorem tw_490 : e_in (.selects RX4 yX4_beginAnew yX4_beginAnew) := ⟨List.mem_of_getElem? (i := 490) (by decide +kernel), by decide +kernel⟩
theorem tw_491 : e_in (.code yX4_beginAnew cX4_beginAnew 3 none) := ⟨List.mem_of_getElem? (i := 491) (by decide +kernel), by decide +kernel⟩
theorem tw_492 : e_in (.methodLink RX4 27 yX3_beginAnew) := ⟨List.mem_of_getElem? (i := 492) (by decide +kernel), by decide +kernel⟩
theorem tw_493 : e_in (.instanceMethod yX3_beginAnew) := ⟨List.mem_of_getElem? (i := 493) (by decide +kernel), by decide +kernel⟩
theorem tw_494 : e_in (.selects RX3 yX3_beginAnew yX3_beginAnew) := ⟨List.mem_of_getElem? (i := 494) (by decide +kernel), by decide +kernel⟩
theorem tw_495 : e_in (.code yX3_beginAnew cX3_beginAnew 2 none) := ⟨List.mem_of_getElem? (i := 495) (by decide +kernel), by decide +kernel⟩
theorem tw_496 : e_in (.methodLink RX3 51 yX1_empty) := ⟨List.mem_of_getElem? (i := 496) (by decide +kernel), by decide +kernel⟩
theorem tw_497 : e_in (.instanceMethod yX1_empty) := ⟨List.mem_of_getElem? (i := 497) (by decide +kernel), by decide +kernel⟩
theorem tw_498 : e_in (.selects RX1 yX1_empty yX1_empty) := ⟨List.mem_of_getElem? (i := 498) (by decide +kernel), by decide +kernel⟩
theorem tw_499 : e_in (.code yX1_empty cX1_empty 2 none) := ⟨List.mem_of_getElem? (i := 499) (by decide +kernel), by decide +kernel⟩
theorem tw_500 : e_in (.methodLink RX4 31 yX8_beginAnew) := ⟨List.mem_of_getElem? (i := 500) (by decide +kernel), by decide +kernel⟩
theorem tw_501 : e_in (.instanceMethod yX8_beginAnew) := ⟨List.mem_of_getElem? (i := 501) (by decide +kernel), by decide +kernel⟩
theorem tw_502 : e_in (.selects RX8 yX8_beginAnew yX8_beginAnew) := ⟨List.mem_of_getElem? (i := 502) (by decide +kernel), by decide +kernel⟩
theorem tw_503 : e_in (.code yX8_beginAnew cX8_beginAnew 1 none) := ⟨List.mem_of_getElem? (i := 503) (by decide +kernel), by decide +kernel⟩
theorem tw_504 : e_in (.methodLink RX8 27 yX1_empty) := ⟨List.mem_of_getElem? (i := 504) (by decide +kernel), by decide +kernel⟩
theorem tw_505 : e_in (.methodLink RX11 157 yX0_becomeBlind) := ⟨List.mem_of_getElem? (i := 505) (by decide +kernel), by decide +kernel⟩
theorem tw_506 : e_in (.instanceMethod yX0_becomeBlind) := ⟨List.mem_of_getElem? (i := 506) (by decide +kernel), by decide +kernel⟩
theorem tw_507 : e_in (.selects RX0 yX0_becomeBlind yX0_becomeBlind) := ⟨List.mem_of_getElem? (i := 507) (by decide +kernel), by decide +kernel⟩
theorem tw_508 : e_in (.code yX0_becomeBlind cX0_becomeBlind 1 none) := ⟨List.mem_of_getElem? (i := 508) (by decide +kernel), by decide +kernel⟩
theorem tw_509 : e_in (.methodLink RX11 303 yX5_forget) := ⟨List.mem_of_getElem? (i := 509) (by decide +kernel), by decide +kernel⟩
theorem tw_510 : e_in (.instanceMethod yX5_forget) := ⟨List.mem_of_getElem? (i := 510) (by decide +kernel), by decide +kernel⟩
theorem tw_511 : e_in (.selects RX5 yX5_forget yX5_forget) := ⟨List.mem_of_getElem? (i := 511) (by decide +kernel), by decide +kernel⟩
theorem tw_512 : e_in (.code yX5_forget cX5_forget 1 none) := ⟨List.mem_of_getElem? (i := 512) (by decide +kernel), by decide +kernel⟩
theorem tw_514 : e_in (.methodLink RL 27 yX11_reads) := ⟨List.mem_of_getElem? (i := 514) (by decide +kernel), by decide +kernel⟩
theorem tw_515 : e_in (.instanceMethod yX11_reads) := ⟨List.mem_of_getElem? (i := 515) (by decide +kernel), by decide +kernel⟩
theorem tw_516 : e_in (.selects RX11 yX11_reads yX11_reads) := ⟨List.mem_of_getElem? (i := 516) (by decide +kernel), by decide +kernel⟩
theorem tw_517 : e_in (.code yX11_reads cX11_reads 6 (some .int)) := ⟨List.mem_of_getElem? (i := 517) (by decide +kernel), by decide +kernel⟩
theorem tw_518 : e_in (.methodLink RX11 92 yX11_clientAt) := ⟨List.mem_of_getElem? (i := 518) (by decide +kernel), by decide +kernel⟩
theorem tw_520 : e_in (.instanceMethod yX11_clientAt) := ⟨List.mem_of_getElem? (i := 520) (by decide +kernel), by decide +kernel⟩
theorem tw_521 : e_in (.code yX11_clientAt cX11_clientAt 2 (some (.object "SideVersions$Client"))) := ⟨List.mem_of_getElem? (i := 521) (by decide +kernel), by decide +kernel⟩
theorem tw_522 : e_in (.methodLink RX11 96 yX11_replicaAt) := ⟨List.mem_of_getElem? (i := 522) (by decide +kernel), by decide +kernel⟩
theorem tw_524 : e_in (.instanceMethod yX11_replicaAt) := ⟨List.mem_of_getElem? (i := 524) (by decide +kernel), by decide +kernel⟩
theorem tw_525 : e_in (.code yX11_replicaAt cX11_replicaAt 4 (some (.object "SideVersions$Replica"))) := ⟨List.mem_of_getElem? (i := 525) (by decide +kernel), by decide +kernel⟩
theorem tw_526 : e_in (.methodLink RX11 187 yX11_keyAt) := ⟨List.mem_of_getElem? (i := 526) (by decide +kernel), by decide +kernel⟩
theorem tw_528 : e_in (.instanceMethod yX11_keyAt) := ⟨List.mem_of_getElem? (i := 528) (by decide +kernel), by decide +kernel⟩
theorem tw_529 : e_in (.code yX11_keyAt cX11_keyAt 2 (some (.object "SideVersions$Key"))) := ⟨List.mem_of_getElem? (i := 529) (by decide +kernel), by decide +kernel⟩
theorem tw_530 : e_in (.methodLink RX11 194 yX11_isSite) := ⟨List.mem_of_getElem? (i := 530) (by decide +kernel), by decide +kernel⟩
theorem tw_532 : e_in (.instanceMethod yX11_isSite) := ⟨List.mem_of_getElem? (i := 532) (by decide +kernel), by decide +kernel⟩
theorem tw_533 : e_in (.code yX11_isSite cX11_isSite 2 (some .boolean)) := ⟨List.mem_of_getElem? (i := 533) (by decide +kernel), by decide +kernel⟩
theorem tw_534 : e_in (.methodLink RX11 306 yX4_replicaOf) := ⟨List.mem_of_getElem? (i := 534) (by decide +kernel), by decide +kernel⟩
theorem tw_535 : e_in (.instanceMethod yX4_replicaOf) := ⟨List.mem_of_getElem? (i := 535) (by decide +kernel), by decide +kernel⟩
theorem tw_536 : e_in (.selects RX4 yX4_replicaOf yX4_replicaOf) := ⟨List.mem_of_getElem? (i := 536) (by decide +kernel), by decide +kernel⟩
theorem tw_537 : e_in (.code yX4_replicaOf cX4_replicaOf 2 (some (.object "SideVersions$Replica"))) := ⟨List.mem_of_getElem? (i := 537) (by decide +kernel), by decide +kernel⟩
theorem tw_538 : e_in (.methodLink RX11 115 yX3_pruned) := ⟨List.mem_of_getElem? (i := 538) (by decide +kernel), by decide +kernel⟩
theorem tw_539 : e_in (.instanceMethod yX3_pruned) := ⟨List.mem_of_getElem? (i := 539) (by decide +kernel), by decide +kernel⟩
theorem tw_540 : e_in (.selects RX3 yX3_pruned yX3_pruned) := ⟨List.mem_of_getElem? (i := 540) (by decide +kernel), by decide +kernel⟩
theorem tw_541 : e_in (.code yX3_pruned cX3_pruned 5 (some .int)) := ⟨List.mem_of_getElem? (i := 541) (by decide +kernel), by decide +kernel⟩
theorem tw_542 : e_in (.methodLink RX3 82 yX9_aboveZero) := ⟨List.mem_of_getElem? (i := 542) (by decide +kernel), by decide +kernel⟩
theorem tw_543 : e_in (.static yX9_aboveZero) := ⟨List.mem_of_getElem? (i := 543) (by decide +kernel), by decide +kernel⟩
theorem tw_544 : e_in (.code yX9_aboveZero cX9_aboveZero 3 (some .int)) := ⟨List.mem_of_getElem? (i := 544) (by decide +kernel), by decide +kernel⟩
theorem tw_545 : e_in (.methodLink RX9 9 yX9_number) := ⟨List.mem_of_getElem? (i := 545) (by decide +kernel), by decide +kernel⟩
theorem tw_546 : e_in (.static yX9_number) := ⟨List.mem_of_getElem? (i := 546) (by decide +kernel), by decide +kernel⟩
theorem tw_547 : e_in (.code yX9_number cX9_number 2 (some .int)) := ⟨List.mem_of_getElem? (i := 547) (by decide +kernel), by decide +kernel⟩
theorem tw_548 : e_in (.methodLink RX3 85 yX3_oldestSite) := ⟨List.mem_of_getElem? (i := 548) (by decide +kernel), by decide +kernel⟩
theorem tw_550 : e_in (.instanceMethod yX3_oldestSite) := ⟨List.mem_of_getElem? (i := 550) (by decide +kernel), by decide +kernel⟩
theorem tw_551 : e_in (.code yX3_oldestSite cX3_oldestSite 7 (some .int)) := ⟨List.mem_of_getElem? (i := 551) (by decide +kernel), by decide +kernel⟩
theorem tw_552 : e_in (.methodLink RX3 62 yX9_number) := ⟨List.mem_of_getElem? (i := 552) (by decide +kernel), by decide +kernel⟩
theorem tw_553 : e_in (.methodLink RX3 88 yX1_of) := ⟨List.mem_of_getElem? (i := 553) (by decide +kernel), by decide +kernel⟩
theorem tw_554 : e_in (.static yX1_of) := ⟨List.mem_of_getElem? (i := 554) (by decide +kernel), by decide +kernel⟩
theorem tw_555 : e_in (.code yX1_of cX1_of 2 (some .int)) := ⟨List.mem_of_getElem? (i := 555) (by decide +kernel), by decide +kernel⟩
theorem tw_556 : e_in (.methodLink RX3 79 yX3_stampOf) := ⟨List.mem_of_getElem? (i := 556) (by decide +kernel), by decide +kernel⟩
theorem tw_557 : e_in (.instanceMethod yX3_stampOf) := ⟨List.mem_of_getElem? (i := 557) (by decide +kernel), by decide +kernel⟩
theorem tw_558 : e_in (.selects RX3 yX3_stampOf yX3_stampOf) := ⟨List.mem_of_getElem? (i := 558) (by decide +kernel), by decide +kernel⟩
theorem tw_559 : e_in (.code yX3_stampOf cX3_stampOf 2 (some .int)) := ⟨List.mem_of_getElem? (i := 559) (by decide +kernel), by decide +kernel⟩
theorem tw_560 : e_in (.methodLink RX3 75 yX3_has) := ⟨List.mem_of_getElem? (i := 560) (by decide +kernel), by decide +kernel⟩
theorem tw_561 : e_in (.instanceMethod yX3_has) := ⟨List.mem_of_getElem? (i := 561) (by decide +kernel), by decide +kernel⟩
theorem tw_562 : e_in (.selects RX3 yX3_has yX3_has) := ⟨List.mem_of_getElem? (i := 562) (by decide +kernel), by decide +kernel⟩
theorem tw_563 : e_in (.code yX3_has cX3_has 2 (some .boolean)) := ⟨List.mem_of_getElem? (i := 563) (by decide +kernel), by decide +kernel⟩
theorem tw_564 : e_in (.methodLink RX3 54 yX1_isDot) := ⟨List.mem_of_getElem? (i := 564) (by decide +kernel), by decide +kernel⟩
theorem tw_565 : e_in (.static yX1_isDot) := ⟨List.mem_of_getElem? (i := 565) (by decide +kernel), by decide +kernel⟩
theorem tw_566 : e_in (.code yX1_isDot cX1_isDot 1 (some .boolean)) := ⟨List.mem_of_getElem? (i := 566) (by decide +kernel), by decide +kernel⟩
theorem tw_567 : e_in (.methodLink RX3 58 yX1_siteOf) := ⟨List.mem_of_getElem? (i := 567) (by decide +kernel), by decide +kernel⟩
theorem tw_568 : e_in (.static yX1_siteOf) := ⟨List.mem_of_getElem? (i := 568) (by decide +kernel), by decide +kernel⟩
theorem tw_569 : e_in (.code yX1_siteOf cX1_siteOf 1 (some .int)) := ⟨List.mem_of_getElem? (i := 569) (by decide +kernel), by decide +kernel⟩
theorem tw_570 : e_in (.methodLink RX3 68 yX1_numberOf) := ⟨List.mem_of_getElem? (i := 570) (by decide +kernel), by decide +kernel⟩
theorem tw_571 : e_in (.static yX1_numberOf) := ⟨List.mem_of_getElem? (i := 571) (by decide +kernel), by decide +kernel⟩
theorem tw_572 : e_in (.code yX1_numberOf cX1_numberOf 1 (some .int)) := ⟨List.mem_of_getElem? (i := 572) (by decide +kernel), by decide +kernel⟩
theorem tw_573 : e_in (.methodLink RX3 71 yX9_with) := ⟨List.mem_of_getElem? (i := 573) (by decide +kernel), by decide +kernel⟩
theorem tw_574 : e_in (.static yX9_with) := ⟨List.mem_of_getElem? (i := 574) (by decide +kernel), by decide +kernel⟩
theorem tw_575 : e_in (.code yX9_with cX9_with 3 (some .int)) := ⟨List.mem_of_getElem? (i := 575) (by decide +kernel), by decide +kernel⟩
theorem tw_576 : e_in (.methodLink RX11 131 yX1_addAll) := ⟨List.mem_of_getElem? (i := 576) (by decide +kernel), by decide +kernel⟩
theorem tw_577 : e_in (.instanceMethod yX1_addAll) := ⟨List.mem_of_getElem? (i := 577) (by decide +kernel), by decide +kernel⟩
theorem tw_578 : e_in (.selects RX1 yX1_addAll yX1_addAll) := ⟨List.mem_of_getElem? (i := 578) (by decide +kernel), by decide +kernel⟩
theorem tw_579 : e_in (.code yX1_addAll cX1_addAll 3 none) := ⟨List.mem_of_getElem? (i := 579) (by decide +kernel), by decide +kernel⟩
theorem tw_580 : e_in (.methodLink RX11 137 yX1_size) := ⟨List.mem_of_getElem? (i := 580) (by decide +kernel), by decide +kernel⟩
theorem tw_581 : e_in (.instanceMethod yX1_size) := ⟨List.mem_of_getElem? (i := 581) (by decide +kernel), by decide +kernel⟩
theorem tw_582 : e_in (.selects RX1 yX1_size yX1_size) := ⟨List.mem_of_getElem? (i := 582) (by decide +kernel), by decide +kernel⟩
theorem tw_583 : e_in (.code yX1_size cX1_size 3 (some .int)) := ⟨List.mem_of_getElem? (i := 583) (by decide +kernel), by decide +kernel⟩
theorem tw_584 : e_in (.methodLink RX1 35 yJ13_bitCount_95d88) := ⟨List.mem_of_getElem? (i := 584) (by decide +kernel), by decide +kernel⟩
theorem tw_585 : e_in (.static yJ13_bitCount_95d88) := ⟨List.mem_of_getElem? (i := 585) (by decide +kernel), by decide +kernel⟩
theorem tw_586 : e_in (.code yJ13_bitCount_95d88 cJ13_bitCount_95d88 2 (some .int)) := ⟨List.mem_of_getElem? (i := 586) (by decide +kernel), by decide +kernel⟩
theorem tw_587 : e_in (.constantLong RJ13 314 6148914691236517205) := ⟨List.mem_of_getElem? (i := 587) (by decide +kernel), by decide +kernel⟩
theorem tw_588 : e_in (.constantLong RJ13 316 3689348814741910323) := ⟨List.mem_of_getElem? (i := 588) (by decide +kernel), by decide +kernel⟩
theorem tw_589 : e_in (.constantLong RJ13 318 1085102592571150095) := ⟨List.mem_of_getElem? (i := 589) (by decide +kernel), by decide +kernel⟩
theorem tw_590 : e_in (.methodLink RL 34 yX11_writes) := ⟨List.mem_of_getElem? (i := 590) (by decide +kernel), by decide +kernel⟩
theorem tw_591 : e_in (.instanceMethod yX11_writes) := ⟨List.mem_of_getElem? (i := 591) (by decide +kernel), by decide +kernel⟩
theorem tw_592 : e_in (.selects RX11 yX11_writes yX11_writes) := ⟨List.mem_of_getElem? (i := 592) (by decide +kernel), by decide +kernel⟩
theorem tw_593 : e_in (.code yX11_writes cX11_writes 11 (some .int)) := ⟨List.mem_of_getElem? (i := 593) (by decide +kernel), by decide +kernel⟩
theorem tw_594 : e_in (.methodLink RX11 141 yX8_nextNumber) := ⟨List.mem_of_getElem? (i := 594) (by decide +kernel), by decide +kernel⟩
theorem tw_595 : e_in (.instanceMethod yX8_nextNumber) := ⟨List.mem_of_getElem? (i := 595) (by decide +kernel), by decide +kernel⟩
theorem tw_596 : e_in (.selects RX8 yX8_nextNumber yX8_nextNumber) := ⟨List.mem_of_getElem? (i := 596) (by decide +kernel), by decide +kernel⟩
theorem tw_597 : e_in (.code yX8_nextNumber cX8_nextNumber 1 (some .int)) := ⟨List.mem_of_getElem? (i := 597) (by decide +kernel), by decide +kernel⟩
theorem tw_598 : e_in (.methodLink RX8 30 yX9_number) := ⟨List.mem_of_getElem? (i := 598) (by decide +kernel), by decide +kernel⟩
theorem tw_599 : e_in (.methodLink RX11 150 yX8_take) := ⟨List.mem_of_getElem? (i := 599) (by decide +kernel), by decide +kernel⟩
theorem tw_600 : e_in (.instanceMethod yX8_take) := ⟨List.mem_of_getElem? (i := 600) (by decide +kernel), by decide +kernel⟩
theorem tw_601 : e_in (.selects RX8 yX8_take yX8_take) := ⟨List.mem_of_getElem? (i := 601) (by decide +kernel), by decide +kernel⟩
theorem tw_602 : e_in (.code yX8_take cX8_take 8 none) := ⟨List.mem_of_getElem? (i := 602) (by decide +kernel), by decide +kernel⟩
theorem tw_603 : e_in (.methodLink RX8 41 yX1_addCovered) := ⟨List.mem_of_getElem? (i := 603) (by decide +kernel), by decide +kernel⟩
theorem tw_604 : e_in (.instanceMethod yX1_addCovered) := ⟨List.mem_of_getElem? (i := 604) (by decide +kernel), by decide +kernel⟩
theorem tw_605 : e_in (.selects RX1 yX1_addCovered yX1_addCovered) := ⟨List.mem_of_getElem? (i := 605) (by decide +kernel), by decide +kernel⟩
theorem tw_606 : e_in (.code yX1_addCovered cX1_addCovered 4 none) := ⟨List.mem_of_getElem? (i := 606) (by decide +kernel), by decide +kernel⟩
theorem tw_607 : e_in (.methodLink RX1 44 yX1_covered) := ⟨List.mem_of_getElem? (i := 607) (by decide +kernel), by decide +kernel⟩
theorem tw_608 : e_in (.static yX1_covered) := ⟨List.mem_of_getElem? (i := 608) (by decide +kernel), by decide +kernel⟩
theorem tw_609 : e_in (.code yX1_covered cX1_covered 2 (some .long)) := ⟨List.mem_of_getElem? (i := 609) (by decide +kernel), by decide +kernel⟩
theorem tw_610 : e_in (.methodLink RX1 15 yX9_number) := ⟨List.mem_of_getElem? (i := 610) (by decide +kernel), by decide +kernel⟩
theorem tw_611 : e_in (.methodLink RX8 45 yX1_removeCovered) := ⟨List.mem_of_getElem? (i := 611) (by decide +kernel), by decide +kernel⟩
theorem tw_612 : e_in (.instanceMethod yX1_removeCovered) := ⟨List.mem_of_getElem? (i := 612) (by decide +kernel), by decide +kernel⟩
theorem tw_613 : e_in (.selects RX1 yX1_removeCovered yX1_removeCovered) := ⟨List.mem_of_getElem? (i := 613) (by decide +kernel), by decide +kernel⟩
theorem tw_614 : e_in (.code yX1_removeCovered cX1_removeCovered 3 none) := ⟨List.mem_of_getElem? (i := 614) (by decide +kernel), by decide +kernel⟩
theorem tw_615 : e_in (.constantLong RX1 33 (-1)) := ⟨List.mem_of_getElem? (i := 615) (by decide +kernel), by decide +kernel⟩
theorem tw_616 : e_in (.methodLink RX8 52 yX1_coveredTotal) := ⟨List.mem_of_getElem? (i := 616) (by decide +kernel), by decide +kernel⟩
theorem tw_617 : e_in (.instanceMethod yX1_coveredTotal) := ⟨List.mem_of_getElem? (i := 617) (by decide +kernel), by decide +kernel⟩
theorem tw_618 : e_in (.selects RX1 yX1_coveredTotal yX1_coveredTotal) := ⟨List.mem_of_getElem? (i := 618) (by decide +kernel), by decide +kernel⟩
theorem tw_619 : e_in (.code yX1_coveredTotal cX1_coveredTotal 4 (some .int)) := ⟨List.mem_of_getElem? (i := 619) (by decide +kernel), by decide +kernel⟩
theorem tw_620 : e_in (.methodLink RX8 56 yX8_nextNumber) := ⟨List.mem_of_getElem? (i := 620) (by decide +kernel), by decide +kernel⟩
theorem tw_621 : e_in (.methodLink RX8 60 yX1_of) := ⟨List.mem_of_getElem? (i := 621) (by decide +kernel), by decide +kernel⟩
theorem tw_622 : e_in (.methodLink RX8 63 yX9_greater) := ⟨List.mem_of_getElem? (i := 622) (by decide +kernel), by decide +kernel⟩
theorem tw_623 : e_in (.static yX9_greater) := ⟨List.mem_of_getElem? (i := 623) (by decide +kernel), by decide +kernel⟩
theorem tw_624 : e_in (.code yX9_greater cX9_greater 4 (some .int)) := ⟨List.mem_of_getElem? (i := 624) (by decide +kernel), by decide +kernel⟩
theorem tw_625 : e_in (.methodLink RX9 15 Lib.Math.max.name) := ⟨List.mem_of_getElem? (i := 625) (by decide +kernel), by decide +kernel⟩
theorem tw_626 : e_in (.static Lib.Math.max.name) := ⟨List.mem_of_getElem? (i := 626) (by decide +kernel), by decide +kernel⟩
theorem tw_627 : e_in (.code Lib.Math.max.name Lib.Math.max.code 2 (some .int)) := ⟨List.mem_of_getElem? (i := 627) (by decide +kernel), by decide +kernel⟩
theorem tw_628 : e_in (.methodLink RX9 20 yX9_with) := ⟨List.mem_of_getElem? (i := 628) (by decide +kernel), by decide +kernel⟩
theorem tw_629 : e_in (.methodLink RX8 66 yX9_with) := ⟨List.mem_of_getElem? (i := 629) (by decide +kernel), by decide +kernel⟩
theorem tw_630 : e_in (.methodLink RX8 70 yX3_note) := ⟨List.mem_of_getElem? (i := 630) (by decide +kernel), by decide +kernel⟩
theorem tw_631 : e_in (.instanceMethod yX3_note) := ⟨List.mem_of_getElem? (i := 631) (by decide +kernel), by decide +kernel⟩
theorem tw_632 : e_in (.selects RX3 yX3_note yX3_note) := ⟨List.mem_of_getElem? (i := 632) (by decide +kernel), by decide +kernel⟩
theorem tw_633 : e_in (.code yX3_note cX3_note 7 none) := ⟨List.mem_of_getElem? (i := 633) (by decide +kernel), by decide +kernel⟩
theorem tw_634 : e_in (.methodLink RX8 74 yX1_add) := ⟨List.mem_of_getElem? (i := 634) (by decide +kernel), by decide +kernel⟩
theorem tw_635 : e_in (.instanceMethod yX1_add) := ⟨List.mem_of_getElem? (i := 635) (by decide +kernel), by decide +kernel⟩
theorem tw_636 : e_in (.selects RX1 yX1_add yX1_add) := ⟨List.mem_of_getElem? (i := 636) (by decide +kernel), by decide +kernel⟩
theorem tw_637 : e_in (.code yX1_add cX1_add 2 none) := ⟨List.mem_of_getElem? (i := 637) (by decide +kernel), by decide +kernel⟩
theorem tw_638 : e_in (.methodLink RX1 21 yX1_isDot) := ⟨List.mem_of_getElem? (i := 638) (by decide +kernel), by decide +kernel⟩
theorem tw_639 : e_in (.methodLink RX1 25 yX1_siteOf) := ⟨List.mem_of_getElem? (i := 639) (by decide +kernel), by decide +kernel⟩
theorem tw_640 : e_in (.methodLink RX1 29 yX1_bitOf) := ⟨List.mem_of_getElem? (i := 640) (by decide +kernel), by decide +kernel⟩
theorem tw_641 : e_in (.static yX1_bitOf) := ⟨List.mem_of_getElem? (i := 641) (by decide +kernel), by decide +kernel⟩
theorem tw_642 : e_in (.code yX1_bitOf cX1_bitOf 1 (some .long)) := ⟨List.mem_of_getElem? (i := 642) (by decide +kernel), by decide +kernel⟩
theorem tw_643 : e_in (.methodLink RX1 48 yX1_numberOf) := ⟨List.mem_of_getElem? (i := 643) (by decide +kernel), by decide +kernel⟩
theorem tw_644 : e_in (.methodLink RX11 154 yX8_dropBeyond) := ⟨List.mem_of_getElem? (i := 644) (by decide +kernel), by decide +kernel⟩
theorem tw_645 : e_in (.instanceMethod yX8_dropBeyond) := ⟨List.mem_of_getElem? (i := 645) (by decide +kernel), by decide +kernel⟩
theorem tw_646 : e_in (.selects RX8 yX8_dropBeyond yX8_dropBeyond) := ⟨List.mem_of_getElem? (i := 646) (by decide +kernel), by decide +kernel⟩
theorem tw_647 : e_in (.code yX8_dropBeyond cX8_dropBeyond 4 none) := ⟨List.mem_of_getElem? (i := 647) (by decide +kernel), by decide +kernel⟩
theorem tw_648 : e_in (.methodLink RX8 81 yX1_size) := ⟨List.mem_of_getElem? (i := 648) (by decide +kernel), by decide +kernel⟩
theorem tw_649 : e_in (.methodLink RX8 84 yX3_nextByStamp) := ⟨List.mem_of_getElem? (i := 649) (by decide +kernel), by decide +kernel⟩
theorem tw_650 : e_in (.instanceMethod yX3_nextByStamp) := ⟨List.mem_of_getElem? (i := 650) (by decide +kernel), by decide +kernel⟩
theorem tw_651 : e_in (.selects RX3 yX3_nextByStamp yX3_nextByStamp) := ⟨List.mem_of_getElem? (i := 651) (by decide +kernel), by decide +kernel⟩
theorem tw_652 : e_in (.code yX3_nextByStamp cX3_nextByStamp 5 (some .int)) := ⟨List.mem_of_getElem? (i := 652) (by decide +kernel), by decide +kernel⟩
theorem tw_653 : e_in (.methodLink RX3 78 yX1_has) := ⟨List.mem_of_getElem? (i := 653) (by decide +kernel), by decide +kernel⟩
theorem tw_654 : e_in (.instanceMethod yX1_has) := ⟨List.mem_of_getElem? (i := 654) (by decide +kernel), by decide +kernel⟩
theorem tw_655 : e_in (.selects RX1 yX1_has yX1_has) := ⟨List.mem_of_getElem? (i := 655) (by decide +kernel), by decide +kernel⟩
theorem tw_656 : e_in (.code yX1_has cX1_has 2 (some .boolean)) := ⟨List.mem_of_getElem? (i := 656) (by decide +kernel), by decide +kernel⟩
theorem tw_657 : e_in (.methodLink RX8 88 yX1_remove) := ⟨List.mem_of_getElem? (i := 657) (by decide +kernel), by decide +kernel⟩
theorem tw_658 : e_in (.instanceMethod yX1_remove) := ⟨List.mem_of_getElem? (i := 658) (by decide +kernel), by decide +kernel⟩
theorem tw_659 : e_in (.selects RX1 yX1_remove yX1_remove) := ⟨List.mem_of_getElem? (i := 659) (by decide +kernel), by decide +kernel⟩
theorem tw_660 : e_in (.code yX1_remove cX1_remove 2 none) := ⟨List.mem_of_getElem? (i := 660) (by decide +kernel), by decide +kernel⟩
theorem tw_661 : e_in (.methodLink RL 39 yX11_blinds) := ⟨List.mem_of_getElem? (i := 661) (by decide +kernel), by decide +kernel⟩
theorem tw_662 : e_in (.instanceMethod yX11_blinds) := ⟨List.mem_of_getElem? (i := 662) (by decide +kernel), by decide +kernel⟩
theorem tw_663 : e_in (.selects RX11 yX11_blinds yX11_blinds) := ⟨List.mem_of_getElem? (i := 663) (by decide +kernel), by decide +kernel⟩
theorem tw_664 : e_in (.code yX11_blinds cX11_blinds 3 (some .int)) := ⟨List.mem_of_getElem? (i := 664) (by decide +kernel), by decide +kernel⟩
theorem tw_665 : e_in (.methodLink RX11 160 yX0_isBlind) := ⟨List.mem_of_getElem? (i := 665) (by decide +kernel), by decide +kernel⟩
theorem tw_666 : e_in (.instanceMethod yX0_isBlind) := ⟨List.mem_of_getElem? (i := 666) (by decide +kernel), by decide +kernel⟩
theorem tw_667 : e_in (.selects RX0 yX0_isBlind yX0_isBlind) := ⟨List.mem_of_getElem? (i := 667) (by decide +kernel), by decide +kernel⟩
theorem tw_668 : e_in (.code yX0_isBlind cX0_isBlind 1 (some .boolean)) := ⟨List.mem_of_getElem? (i := 668) (by decide +kernel), by decide +kernel⟩
theorem tw_669 : e_in (.methodLink RL 43 yX11_sends) := ⟨List.mem_of_getElem? (i := 669) (by decide +kernel), by decide +kernel⟩
theorem tw_670 : e_in (.instanceMethod yX11_sends) := ⟨List.mem_of_getElem? (i := 670) (by decide +kernel), by decide +kernel⟩
theorem tw_671 : e_in (.selects RX11 yX11_sends yX11_sends) := ⟨List.mem_of_getElem? (i := 671) (by decide +kernel), by decide +kernel⟩
theorem tw_672 : e_in (.code yX11_sends cX11_sends 6 (some .int)) := ⟨List.mem_of_getElem? (i := 672) (by decide +kernel), by decide +kernel⟩
theorem tw_673 : e_in (.methodLink RX11 163 yX8_receive) := ⟨List.mem_of_getElem? (i := 673) (by decide +kernel), by decide +kernel⟩
theorem tw_674 : e_in (.instanceMethod yX8_receive) := ⟨List.mem_of_getElem? (i := 674) (by decide +kernel), by decide +kernel⟩
theorem tw_675 : e_in (.selects RX8 yX8_receive yX8_receive) := ⟨List.mem_of_getElem? (i := 675) (by decide +kernel), by decide +kernel⟩
theorem tw_676 : e_in (.code yX8_receive cX8_receive 2 none) := ⟨List.mem_of_getElem? (i := 676) (by decide +kernel), by decide +kernel⟩
theorem tw_677 : e_in (.methodLink RX8 77 yX1_join) := ⟨List.mem_of_getElem? (i := 677) (by decide +kernel), by decide +kernel⟩
theorem tw_678 : e_in (.instanceMethod yX1_join) := ⟨List.mem_of_getElem? (i := 678) (by decide +kernel), by decide +kernel⟩
theorem tw_679 : e_in (.selects RX1 yX1_join yX1_join) := ⟨List.mem_of_getElem? (i := 679) (by decide +kernel), by decide +kernel⟩
theorem tw_680 : e_in (.code yX1_join cX1_join 9 none) := ⟨List.mem_of_getElem? (i := 680) (by decide +kernel), by decide +kernel⟩
theorem tw_681 : e_in (.methodLink RL 47 yX11_merges) := ⟨List.mem_of_getElem? (i := 681) (by decide +kernel), by decide +kernel⟩
theorem tw_682 : e_in (.instanceMethod yX11_merges) := ⟨List.mem_of_getElem? (i := 682) (by decide +kernel), by decide +kernel⟩
theorem tw_683 : e_in (.selects RX11 yX11_merges yX11_merges) := ⟨List.mem_of_getElem? (i := 683) (by decide +kernel), by decide +kernel⟩
theorem tw_684 : e_in (.code yX11_merges cX11_merges 6 (some .int)) := ⟨List.mem_of_getElem? (i := 684) (by decide +kernel), by decide +kernel⟩
theorem tw_685 : e_in (.methodLink RX11 167 yX5_ruleOf) := ⟨List.mem_of_getElem? (i := 685) (by decide +kernel), by decide +kernel⟩
theorem tw_686 : e_in (.instanceMethod yX5_ruleOf) := ⟨List.mem_of_getElem? (i := 686) (by decide +kernel), by decide +kernel⟩
theorem tw_687 : e_in (.selects RX5 yX5_ruleOf yX5_ruleOf) := ⟨List.mem_of_getElem? (i := 687) (by decide +kernel), by decide +kernel⟩
theorem tw_688 : e_in (.code yX5_ruleOf cX5_ruleOf 2 (some .int)) := ⟨List.mem_of_getElem? (i := 688) (by decide +kernel), by decide +kernel⟩
theorem tw_689 : e_in (.methodLink RX5 22 yX5_placeOf) := ⟨List.mem_of_getElem? (i := 689) (by decide +kernel), by decide +kernel⟩
theorem tw_691 : e_in (.instanceMethod yX5_placeOf) := ⟨List.mem_of_getElem? (i := 691) (by decide +kernel), by decide +kernel⟩
theorem tw_692 : e_in (.code yX5_placeOf cX5_placeOf 3 (some .int)) := ⟨List.mem_of_getElem? (i := 692) (by decide +kernel), by decide +kernel⟩
theorem tw_693 : e_in (.methodLink RX5 26 yX5_ruleAtPlace) := ⟨List.mem_of_getElem? (i := 693) (by decide +kernel), by decide +kernel⟩
theorem tw_694 : e_in (.instanceMethod yX5_ruleAtPlace) := ⟨List.mem_of_getElem? (i := 694) (by decide +kernel), by decide +kernel⟩
theorem tw_695 : e_in (.selects RX5 yX5_ruleAtPlace yX5_ruleAtPlace) := ⟨List.mem_of_getElem? (i := 695) (by decide +kernel), by decide +kernel⟩
theorem tw_696 : e_in (.code yX5_ruleAtPlace cX5_ruleAtPlace 2 (some .int)) := ⟨List.mem_of_getElem? (i := 696) (by decide +kernel), by decide +kernel⟩
theorem tw_697 : e_in (.methodLink RX5 29 yX5_isPlace) := ⟨List.mem_of_getElem? (i := 697) (by decide +kernel), by decide +kernel⟩
theorem tw_699 : e_in (.instanceMethod yX5_isPlace) := ⟨List.mem_of_getElem? (i := 699) (by decide +kernel), by decide +kernel⟩
theorem tw_700 : e_in (.code yX5_isPlace cX5_isPlace 2 (some .boolean)) := ⟨List.mem_of_getElem? (i := 700) (by decide +kernel), by decide +kernel⟩
theorem tw_701 : e_in (.methodLink RX11 171 yX8_blend) := ⟨List.mem_of_getElem? (i := 701) (by decide +kernel), by decide +kernel⟩
theorem tw_702 : e_in (.instanceMethod yX8_blend) := ⟨List.mem_of_getElem? (i := 702) (by decide +kernel), by decide +kernel⟩
theorem tw_703 : e_in (.selects RX8 yX8_blend yX8_blend) := ⟨List.mem_of_getElem? (i := 703) (by decide +kernel), by decide +kernel⟩
theorem tw_704 : e_in (.code yX8_blend cX8_blend 6 none) := ⟨List.mem_of_getElem? (i := 704) (by decide +kernel), by decide +kernel⟩
theorem tw_705 : e_in (.methodLink RX8 97 yX6_begin) := ⟨List.mem_of_getElem? (i := 705) (by decide +kernel), by decide +kernel⟩
theorem tw_706 : e_in (.instanceMethod yX6_begin) := ⟨List.mem_of_getElem? (i := 706) (by decide +kernel), by decide +kernel⟩
theorem tw_707 : e_in (.selects RX6 yX6_begin yX6_begin) := ⟨List.mem_of_getElem? (i := 707) (by decide +kernel), by decide +kernel⟩
theorem tw_708 : e_in (.code yX6_begin cX6_begin 3 none) := ⟨List.mem_of_getElem? (i := 708) (by decide +kernel), by decide +kernel⟩
theorem tw_709 : e_in (.constantLong RX6 26 (-9223372036854775808)) := ⟨List.mem_of_getElem? (i := 709) (by decide +kernel), by decide +kernel⟩
theorem tw_710 : e_in (.constantLong RX6 28 9223372036854775807) := ⟨List.mem_of_getElem? (i := 710) (by decide +kernel), by decide +kernel⟩
theorem tw_711 : e_in (.constantLong RX6 30 (-1)) := ⟨List.mem_of_getElem? (i := 711) (by decide +kernel), by decide +kernel⟩
theorem tw_712 : e_in (.methodLink RX8 103 yX3_stampOf) := ⟨List.mem_of_getElem? (i := 712) (by decide +kernel), by decide +kernel⟩
theorem tw_713 : e_in (.methodLink RX8 106 yX3_valueOf) := ⟨List.mem_of_getElem? (i := 713) (by decide +kernel), by decide +kernel⟩
theorem tw_714 : e_in (.instanceMethod yX3_valueOf) := ⟨List.mem_of_getElem? (i := 714) (by decide +kernel), by decide +kernel⟩
theorem tw_715 : e_in (.selects RX3 yX3_valueOf yX3_valueOf) := ⟨List.mem_of_getElem? (i := 715) (by decide +kernel), by decide +kernel⟩
theorem tw_716 : e_in (.code yX3_valueOf cX3_valueOf 2 (some .long)) := ⟨List.mem_of_getElem? (i := 716) (by decide +kernel), by decide +kernel⟩
theorem tw_717 : e_in (.methodLink RX8 110 yX6_add) := ⟨List.mem_of_getElem? (i := 717) (by decide +kernel), by decide +kernel⟩
theorem tw_718 : e_in (.instanceMethod yX6_add) := ⟨List.mem_of_getElem? (i := 718) (by decide +kernel), by decide +kernel⟩
theorem tw_719 : e_in (.selects RX6 yX6_add yX6_add) := ⟨List.mem_of_getElem? (i := 719) (by decide +kernel), by decide +kernel⟩
theorem tw_720 : e_in (.code yX6_add cX6_add 3 none) := ⟨List.mem_of_getElem? (i := 720) (by decide +kernel), by decide +kernel⟩
theorem tw_721 : e_in (.methodLink RX6 32 Lib.MathLoose.max_long.x) := ⟨List.mem_of_getElem? (i := 721) (by decide +kernel), by decide +kernel⟩
theorem tw_722 : e_in (.static Lib.MathLoose.max_long.x) := ⟨List.mem_of_getElem? (i := 722) (by decide +kernel), by decide +kernel⟩
theorem tw_723 : e_in (.code Lib.MathLoose.max_long.x Lib.MathLoose.max_long.code 4 (some .long)) := ⟨List.mem_of_getElem? (i := 723) (by decide +kernel), by decide +kernel⟩
theorem tw_724 : e_in (.methodLink RX6 38 Lib.MathLoose.min_long.x) := ⟨List.mem_of_getElem? (i := 724) (by decide +kernel), by decide +kernel⟩
theorem tw_725 : e_in (.static Lib.MathLoose.min_long.x) := ⟨List.mem_of_getElem? (i := 725) (by decide +kernel), by decide +kernel⟩
theorem tw_726 : e_in (.code Lib.MathLoose.min_long.x Lib.MathLoose.min_long.code 4 (some .long)) := ⟨List.mem_of_getElem? (i := 726) (by decide +kernel), by decide +kernel⟩
theorem tw_727 : e_in (.methodLink RX6 41 yX6_putTogether) := ⟨List.mem_of_getElem? (i := 727) (by decide +kernel), by decide +kernel⟩
theorem tw_729 : e_in (.instanceMethod yX6_putTogether) := ⟨List.mem_of_getElem? (i := 729) (by decide +kernel), by decide +kernel⟩
theorem tw_730 : e_in (.code yX6_putTogether cX6_putTogether 5 none) := ⟨List.mem_of_getElem? (i := 730) (by decide +kernel), by decide +kernel⟩
theorem tw_731 : e_in (.methodLink RX6 45 yX6_keepCommon) := ⟨List.mem_of_getElem? (i := 731) (by decide +kernel), by decide +kernel⟩
theorem tw_733 : e_in (.instanceMethod yX6_keepCommon) := ⟨List.mem_of_getElem? (i := 733) (by decide +kernel), by decide +kernel⟩
theorem tw_734 : e_in (.code yX6_keepCommon cX6_keepCommon 3 none) := ⟨List.mem_of_getElem? (i := 734) (by decide +kernel), by decide +kernel⟩
theorem tw_735 : e_in (.methodLink RX6 48 yX6_divisorOf) := ⟨List.mem_of_getElem? (i := 735) (by decide +kernel), by decide +kernel⟩
theorem tw_736 : e_in (.static yX6_divisorOf) := ⟨List.mem_of_getElem? (i := 736) (by decide +kernel), by decide +kernel⟩
theorem tw_737 : e_in (.code yX6_divisorOf cX6_divisorOf 11 (some .long)) := ⟨List.mem_of_getElem? (i := 737) (by decide +kernel), by decide +kernel⟩
theorem tw_738 : e_in (.methodLink RX8 113 yX6_end) := ⟨List.mem_of_getElem? (i := 738) (by decide +kernel), by decide +kernel⟩
theorem tw_739 : e_in (.instanceMethod yX6_end) := ⟨List.mem_of_getElem? (i := 739) (by decide +kernel), by decide +kernel⟩
theorem tw_740 : e_in (.selects RX6 yX6_end yX6_end) := ⟨List.mem_of_getElem? (i := 740) (by decide +kernel), by decide +kernel⟩
theorem tw_741 : e_in (.code yX6_end cX6_end 1 none) := ⟨List.mem_of_getElem? (i := 741) (by decide +kernel), by decide +kernel⟩
theorem tw_742 : e_in (.methodLink RX11 183 yX8_mergeInto) := ⟨List.mem_of_getElem? (i := 742) (by decide +kernel), by decide +kernel⟩
theorem tw_743 : e_in (.instanceMethod yX8_mergeInto) := ⟨List.mem_of_getElem? (i := 743) (by decide +kernel), by decide +kernel⟩
theorem tw_744 : e_in (.selects RX8 yX8_mergeInto yX8_mergeInto) := ⟨List.mem_of_getElem? (i := 744) (by decide +kernel), by decide +kernel⟩
theorem tw_745 : e_in (.code yX8_mergeInto cX8_mergeInto 4 none) := ⟨List.mem_of_getElem? (i := 745) (by decide +kernel), by decide +kernel⟩
theorem tw_746 : e_in (.methodLink RX8 119 yX1_addAll) := ⟨List.mem_of_getElem? (i := 746) (by decide +kernel), by decide +kernel⟩
theorem tw_747 : e_in (.methodLink RX8 126 yX8_take) := ⟨List.mem_of_getElem? (i := 747) (by decide +kernel), by decide +kernel⟩
theorem tw_748 : e_in (.methodLink RL 52 yX11_rules) := ⟨List.mem_of_getElem? (i := 748) (by decide +kernel), by decide +kernel⟩
theorem tw_749 : e_in (.instanceMethod yX11_rules) := ⟨List.mem_of_getElem? (i := 749) (by decide +kernel), by decide +kernel⟩
theorem tw_750 : e_in (.selects RX11 yX11_rules yX11_rules) := ⟨List.mem_of_getElem? (i := 750) (by decide +kernel), by decide +kernel⟩
theorem tw_751 : e_in (.code yX11_rules cX11_rules 3 (some .int)) := ⟨List.mem_of_getElem? (i := 751) (by decide +kernel), by decide +kernel⟩
theorem tw_752 : e_in (.methodLink RX11 191 yX5_give) := ⟨List.mem_of_getElem? (i := 752) (by decide +kernel), by decide +kernel⟩
theorem tw_753 : e_in (.instanceMethod yX5_give) := ⟨List.mem_of_getElem? (i := 753) (by decide +kernel), by decide +kernel⟩
theorem tw_754 : e_in (.selects RX5 yX5_give yX5_give) := ⟨List.mem_of_getElem? (i := 754) (by decide +kernel), by decide +kernel⟩
theorem tw_755 : e_in (.code yX5_give cX5_give 5 (some .int)) := ⟨List.mem_of_getElem? (i := 755) (by decide +kernel), by decide +kernel⟩
theorem tw_756 : e_in (.methodLink RL 56 yX11_row) := ⟨List.mem_of_getElem? (i := 756) (by decide +kernel), by decide +kernel⟩
theorem tw_757 : e_in (.instanceMethod yX11_row) := ⟨List.mem_of_getElem? (i := 757) (by decide +kernel), by decide +kernel⟩
theorem tw_758 : e_in (.selects RX11 yX11_row yX11_row) := ⟨List.mem_of_getElem? (i := 758) (by decide +kernel), by decide +kernel⟩
theorem tw_759 : e_in (.code yX11_row cX11_row 5 (some .int)) := ⟨List.mem_of_getElem? (i := 759) (by decide +kernel), by decide +kernel⟩
theorem tw_760 : e_in (.methodLink RX11 198 yX9_number) := ⟨List.mem_of_getElem? (i := 760) (by decide +kernel), by decide +kernel⟩
theorem tw_761 : e_in (.methodLink RL 60 yX11_sibling) := ⟨List.mem_of_getElem? (i := 761) (by decide +kernel), by decide +kernel⟩
theorem tw_762 : e_in (.instanceMethod yX11_sibling) := ⟨List.mem_of_getElem? (i := 762) (by decide +kernel), by decide +kernel⟩
theorem tw_763 : e_in (.selects RX11 yX11_sibling yX11_sibling) := ⟨List.mem_of_getElem? (i := 763) (by decide +kernel), by decide +kernel⟩
theorem tw_764 : e_in (.code yX11_sibling cX11_sibling 7 (some .long)) := ⟨List.mem_of_getElem? (i := 764) (by decide +kernel), by decide +kernel⟩
theorem tw_765 : e_in (.constantLong RX11 203 (-1)) := ⟨List.mem_of_getElem? (i := 765) (by decide +kernel), by decide +kernel⟩
theorem tw_766 : e_in (.methodLink RX11 205 yX1_at) := ⟨List.mem_of_getElem? (i := 766) (by decide +kernel), by decide +kernel⟩
theorem tw_767 : e_in (.instanceMethod yX1_at) := ⟨List.mem_of_getElem? (i := 767) (by decide +kernel), by decide +kernel⟩
theorem tw_768 : e_in (.selects RX1 yX1_at yX1_at) := ⟨List.mem_of_getElem? (i := 768) (by decide +kernel), by decide +kernel⟩
theorem tw_769 : e_in (.code yX1_at cX1_at 4 (some .int)) := ⟨List.mem_of_getElem? (i := 769) (by decide +kernel), by decide +kernel⟩
theorem tw_770 : e_in (.methodLink RX1 41 yX1_has) := ⟨List.mem_of_getElem? (i := 770) (by decide +kernel), by decide +kernel⟩
theorem tw_771 : e_in (.constantLong RX11 208 (-9)) := ⟨List.mem_of_getElem? (i := 771) (by decide +kernel), by decide +kernel⟩
theorem tw_772 : e_in (.methodLink RX11 210 yX1_siteOf) := ⟨List.mem_of_getElem? (i := 772) (by decide +kernel), by decide +kernel⟩
theorem tw_773 : e_in (.methodLink RX11 213 yX1_numberOf) := ⟨List.mem_of_getElem? (i := 773) (by decide +kernel), by decide +kernel⟩
theorem tw_774 : e_in (.methodLink RX11 216 yX3_stampOf) := ⟨List.mem_of_getElem? (i := 774) (by decide +kernel), by decide +kernel⟩
theorem tw_775 : e_in (.methodLink RX11 219 yX3_valueOf) := ⟨List.mem_of_getElem? (i := 775) (by decide +kernel), by decide +kernel⟩
theorem tw_776 : e_in (.methodLink RL 65 yX11_context) := ⟨List.mem_of_getElem? (i := 776) (by decide +kernel), by decide +kernel⟩
theorem tw_777 : e_in (.instanceMethod yX11_context) := ⟨List.mem_of_getElem? (i := 777) (by decide +kernel), by decide +kernel⟩
theorem tw_778 : e_in (.selects RX11 yX11_context yX11_context) := ⟨List.mem_of_getElem? (i := 778) (by decide +kernel), by decide +kernel⟩
theorem tw_779 : e_in (.code yX11_context cX11_context 6 (some .int)) := ⟨List.mem_of_getElem? (i := 779) (by decide +kernel), by decide +kernel⟩
theorem tw_780 : e_in (.methodLink RL 69 yX11_write) := ⟨List.mem_of_getElem? (i := 780) (by decide +kernel), by decide +kernel⟩
theorem tw_781 : e_in (.instanceMethod yX11_write) := ⟨List.mem_of_getElem? (i := 781) (by decide +kernel), by decide +kernel⟩
theorem tw_782 : e_in (.selects RX11 yX11_write yX11_write) := ⟨List.mem_of_getElem? (i := 782) (by decide +kernel), by decide +kernel⟩
theorem tw_783 : e_in (.code yX11_write cX11_write 8 (some .long)) := ⟨List.mem_of_getElem? (i := 783) (by decide +kernel), by decide +kernel⟩
theorem tw_784 : e_in (.methodLink RX11 223 yX11_dotAt) := ⟨List.mem_of_getElem? (i := 784) (by decide +kernel), by decide +kernel⟩
theorem tw_786 : e_in (.instanceMethod yX11_dotAt) := ⟨List.mem_of_getElem? (i := 786) (by decide +kernel), by decide +kernel⟩
theorem tw_787 : e_in (.code yX11_dotAt cX11_dotAt 6 (some .int)) := ⟨List.mem_of_getElem? (i := 787) (by decide +kernel), by decide +kernel⟩
theorem tw_788 : e_in (.methodLink RX11 310 yX1_of) := ⟨List.mem_of_getElem? (i := 788) (by decide +kernel), by decide +kernel⟩
theorem tw_789 : e_in (.methodLink RX11 313 yX3_has) := ⟨List.mem_of_getElem? (i := 789) (by decide +kernel), by decide +kernel⟩
theorem tw_790 : e_in (.methodLink RX11 228 yX1_has) := ⟨List.mem_of_getElem? (i := 790) (by decide +kernel), by decide +kernel⟩
theorem tw_791 : e_in (.methodLink RX11 231 yX11_bit) := ⟨List.mem_of_getElem? (i := 791) (by decide +kernel), by decide +kernel⟩
theorem tw_792 : e_in (.static yX11_bit) := ⟨List.mem_of_getElem? (i := 792) (by decide +kernel), by decide +kernel⟩
theorem tw_793 : e_in (.code yX11_bit cX11_bit 1 (some .int)) := ⟨List.mem_of_getElem? (i := 793) (by decide +kernel), by decide +kernel⟩
theorem tw_794 : e_in (.methodLink RX11 244 yX4_holders) := ⟨List.mem_of_getElem? (i := 794) (by decide +kernel), by decide +kernel⟩
theorem tw_795 : e_in (.instanceMethod yX4_holders) := ⟨List.mem_of_getElem? (i := 795) (by decide +kernel), by decide +kernel⟩
theorem tw_796 : e_in (.selects RX4 yX4_holders yX4_holders) := ⟨List.mem_of_getElem? (i := 796) (by decide +kernel), by decide +kernel⟩
theorem tw_797 : e_in (.code yX4_holders cX4_holders 4 (some .int)) := ⟨List.mem_of_getElem? (i := 797) (by decide +kernel), by decide +kernel⟩
theorem tw_798 : e_in (.methodLink RX4 47 yX1_has) := ⟨List.mem_of_getElem? (i := 798) (by decide +kernel), by decide +kernel⟩
theorem tw_799 : e_nin (.methodLinkNest RX4 53 yX11_bit "SideVersions") := ⟨List.mem_of_getElem? (i := 799) (by decide +kernel), by decide +kernel⟩
theorem tw_800 : e_in (.methodLink RX11 247 yX4_isLost) := ⟨List.mem_of_getElem? (i := 800) (by decide +kernel), by decide +kernel⟩
theorem tw_801 : e_in (.instanceMethod yX4_isLost) := ⟨List.mem_of_getElem? (i := 801) (by decide +kernel), by decide +kernel⟩
theorem tw_802 : e_in (.selects RX4 yX4_isLost yX4_isLost) := ⟨List.mem_of_getElem? (i := 802) (by decide +kernel), by decide +kernel⟩
theorem tw_803 : e_in (.code yX4_isLost cX4_isLost 2 (some .boolean)) := ⟨List.mem_of_getElem? (i := 803) (by decide +kernel), by decide +kernel⟩
theorem tw_804 : e_in (.methodLink RX4 57 yX3_has) := ⟨List.mem_of_getElem? (i := 804) (by decide +kernel), by decide +kernel⟩
theorem tw_805 : e_in (.methodLink RX4 61 yX4_holders) := ⟨List.mem_of_getElem? (i := 805) (by decide +kernel), by decide +kernel⟩
theorem tw_806 : e_in (.methodLink RL 73 yX11_ahead) := ⟨List.mem_of_getElem? (i := 806) (by decide +kernel), by decide +kernel⟩
theorem tw_807 : e_in (.instanceMethod yX11_ahead) := ⟨List.mem_of_getElem? (i := 807) (by decide +kernel), by decide +kernel⟩
theorem tw_808 : e_in (.selects RX11 yX11_ahead yX11_ahead) := ⟨List.mem_of_getElem? (i := 808) (by decide +kernel), by decide +kernel⟩
theorem tw_809 : e_in (.code yX11_ahead cX11_ahead 11 (some .int)) := ⟨List.mem_of_getElem? (i := 809) (by decide +kernel), by decide +kernel⟩
theorem tw_810 : e_in (.methodLink RX11 250 yX3_toldOf) := ⟨List.mem_of_getElem? (i := 810) (by decide +kernel), by decide +kernel⟩
theorem tw_811 : e_in (.instanceMethod yX3_toldOf) := ⟨List.mem_of_getElem? (i := 811) (by decide +kernel), by decide +kernel⟩
theorem tw_812 : e_in (.selects RX3 yX3_toldOf yX3_toldOf) := ⟨List.mem_of_getElem? (i := 812) (by decide +kernel), by decide +kernel⟩
theorem tw_813 : e_in (.code yX3_toldOf cX3_toldOf 2 (some .int)) := ⟨List.mem_of_getElem? (i := 813) (by decide +kernel), by decide +kernel⟩
theorem tw_814 : e_in (.methodLink RX11 253 yX3_knownOf) := ⟨List.mem_of_getElem? (i := 814) (by decide +kernel), by decide +kernel⟩
theorem tw_815 : e_in (.instanceMethod yX3_knownOf) := ⟨List.mem_of_getElem? (i := 815) (by decide +kernel), by decide +kernel⟩
theorem tw_816 : e_in (.selects RX3 yX3_knownOf yX3_knownOf) := ⟨List.mem_of_getElem? (i := 816) (by decide +kernel), by decide +kernel⟩
theorem tw_817 : e_in (.code yX3_knownOf cX3_knownOf 2 (some .int)) := ⟨List.mem_of_getElem? (i := 817) (by decide +kernel), by decide +kernel⟩
theorem tw_818 : e_in (.methodLink RL 78 yX11_alike) := ⟨List.mem_of_getElem? (i := 818) (by decide +kernel), by decide +kernel⟩
theorem tw_819 : e_in (.instanceMethod yX11_alike) := ⟨List.mem_of_getElem? (i := 819) (by decide +kernel), by decide +kernel⟩
theorem tw_820 : e_in (.selects RX11 yX11_alike yX11_alike) := ⟨List.mem_of_getElem? (i := 820) (by decide +kernel), by decide +kernel⟩
theorem tw_821 : e_in (.code yX11_alike cX11_alike 6 (some .int)) := ⟨List.mem_of_getElem? (i := 821) (by decide +kernel), by decide +kernel⟩
theorem tw_822 : e_in (.methodLink RX11 256 yX1_isSame) := ⟨List.mem_of_getElem? (i := 822) (by decide +kernel), by decide +kernel⟩
theorem tw_823 : e_in (.instanceMethod yX1_isSame) := ⟨List.mem_of_getElem? (i := 823) (by decide +kernel), by decide +kernel⟩
theorem tw_824 : e_in (.selects RX1 yX1_isSame yX1_isSame) := ⟨List.mem_of_getElem? (i := 824) (by decide +kernel), by decide +kernel⟩
theorem tw_825 : e_in (.code yX1_isSame cX1_isSame 3 (some .boolean)) := ⟨List.mem_of_getElem? (i := 825) (by decide +kernel), by decide +kernel⟩
theorem tw_826 : e_in (.methodLink RL 82 yX11_behind) := ⟨List.mem_of_getElem? (i := 826) (by decide +kernel), by decide +kernel⟩
theorem tw_827 : e_in (.instanceMethod yX11_behind) := ⟨List.mem_of_getElem? (i := 827) (by decide +kernel), by decide +kernel⟩
theorem tw_828 : e_in (.selects RX11 yX11_behind yX11_behind) := ⟨List.mem_of_getElem? (i := 828) (by decide +kernel), by decide +kernel⟩
theorem tw_829 : e_in (.code yX11_behind cX11_behind 5 (some .int)) := ⟨List.mem_of_getElem? (i := 829) (by decide +kernel), by decide +kernel⟩
theorem tw_830 : e_in (.methodLink RX11 260 yX4_greatestRow) := ⟨List.mem_of_getElem? (i := 830) (by decide +kernel), by decide +kernel⟩
theorem tw_831 : e_in (.instanceMethod yX4_greatestRow) := ⟨List.mem_of_getElem? (i := 831) (by decide +kernel), by decide +kernel⟩
theorem tw_832 : e_in (.selects RX4 yX4_greatestRow yX4_greatestRow) := ⟨List.mem_of_getElem? (i := 832) (by decide +kernel), by decide +kernel⟩
theorem tw_833 : e_in (.code yX4_greatestRow cX4_greatestRow 3 (some .int)) := ⟨List.mem_of_getElem? (i := 833) (by decide +kernel), by decide +kernel⟩
theorem tw_834 : e_in (.methodLink RX4 37 yX9_greater) := ⟨List.mem_of_getElem? (i := 834) (by decide +kernel), by decide +kernel⟩
theorem tw_835 : e_in (.methodLink RX11 263 yX9_sum) := ⟨List.mem_of_getElem? (i := 835) (by decide +kernel), by decide +kernel⟩
theorem tw_836 : e_in (.static yX9_sum) := ⟨List.mem_of_getElem? (i := 836) (by decide +kernel), by decide +kernel⟩
theorem tw_837 : e_in (.code yX9_sum cX9_sum 3 (some .int)) := ⟨List.mem_of_getElem? (i := 837) (by decide +kernel), by decide +kernel⟩
theorem tw_838 : e_in (.methodLink RL 86 yX11_spread) := ⟨List.mem_of_getElem? (i := 838) (by decide +kernel), by decide +kernel⟩
theorem tw_839 : e_in (.instanceMethod yX11_spread) := ⟨List.mem_of_getElem? (i := 839) (by decide +kernel), by decide +kernel⟩
theorem tw_840 : e_in (.selects RX11 yX11_spread yX11_spread) := ⟨List.mem_of_getElem? (i := 840) (by decide +kernel), by decide +kernel⟩
theorem tw_841 : e_in (.code yX11_spread cX11_spread 4 (some .int)) := ⟨List.mem_of_getElem? (i := 841) (by decide +kernel), by decide +kernel⟩
theorem tw_842 : e_in (.methodLink RX11 266 yX2_lookAt) := ⟨List.mem_of_getElem? (i := 842) (by decide +kernel), by decide +kernel⟩
theorem tw_843 : e_in (.instanceMethod yX2_lookAt) := ⟨List.mem_of_getElem? (i := 843) (by decide +kernel), by decide +kernel⟩
theorem tw_844 : e_in (.selects RX2 yX2_lookAt yX2_lookAt) := ⟨List.mem_of_getElem? (i := 844) (by decide +kernel), by decide +kernel⟩
theorem tw_845 : e_in (.code yX2_lookAt cX2_lookAt 5 none) := ⟨List.mem_of_getElem? (i := 845) (by decide +kernel), by decide +kernel⟩
theorem tw_846 : e_in (.methodLink RX2 15 Lib.Math.min.name) := ⟨List.mem_of_getElem? (i := 846) (by decide +kernel), by decide +kernel⟩
theorem tw_847 : e_in (.methodLink RX2 25 yX4_isWithin) := ⟨List.mem_of_getElem? (i := 847) (by decide +kernel), by decide +kernel⟩
theorem tw_848 : e_in (.instanceMethod yX4_isWithin) := ⟨List.mem_of_getElem? (i := 848) (by decide +kernel), by decide +kernel⟩
theorem tw_849 : e_in (.selects RX4 yX4_isWithin yX4_isWithin) := ⟨List.mem_of_getElem? (i := 849) (by decide +kernel), by decide +kernel⟩
theorem tw_850 : e_in (.code yX4_isWithin cX4_isWithin 10 (some .boolean)) := ⟨List.mem_of_getElem? (i := 850) (by decide +kernel), by decide +kernel⟩
theorem tw_851 : e_in (.methodLink RX4 68 yX4_replicaOf) := ⟨List.mem_of_getElem? (i := 851) (by decide +kernel), by decide +kernel⟩
theorem tw_852 : e_in (.methodLink RX4 72 yX8_covered) := ⟨List.mem_of_getElem? (i := 852) (by decide +kernel), by decide +kernel⟩
theorem tw_853 : e_in (.instanceMethod yX8_covered) := ⟨List.mem_of_getElem? (i := 853) (by decide +kernel), by decide +kernel⟩
theorem tw_854 : e_in (.selects RX8 yX8_covered yX8_covered) := ⟨List.mem_of_getElem? (i := 854) (by decide +kernel), by decide +kernel⟩
theorem tw_855 : e_in (.code yX8_covered cX8_covered 2 (some .long)) := ⟨List.mem_of_getElem? (i := 855) (by decide +kernel), by decide +kernel⟩
theorem tw_856 : e_in (.methodLink RX8 130 yX1_covered) := ⟨List.mem_of_getElem? (i := 856) (by decide +kernel), by decide +kernel⟩
theorem tw_857 : e_in (.methodLink RX4 76 yX8_gone) := ⟨List.mem_of_getElem? (i := 857) (by decide +kernel), by decide +kernel⟩
theorem tw_858 : e_in (.instanceMethod yX8_gone) := ⟨List.mem_of_getElem? (i := 858) (by decide +kernel), by decide +kernel⟩
theorem tw_859 : e_in (.selects RX8 yX8_gone yX8_gone) := ⟨List.mem_of_getElem? (i := 859) (by decide +kernel), by decide +kernel⟩
theorem tw_860 : e_in (.code yX8_gone cX8_gone 2 (some .long)) := ⟨List.mem_of_getElem? (i := 860) (by decide +kernel), by decide +kernel⟩
theorem tw_861 : e_in (.methodLink RX8 134 yX1_gone) := ⟨List.mem_of_getElem? (i := 861) (by decide +kernel), by decide +kernel⟩
theorem tw_862 : e_in (.instanceMethod yX1_gone) := ⟨List.mem_of_getElem? (i := 862) (by decide +kernel), by decide +kernel⟩
theorem tw_863 : e_in (.selects RX1 yX1_gone yX1_gone) := ⟨List.mem_of_getElem? (i := 863) (by decide +kernel), by decide +kernel⟩
theorem tw_864 : e_in (.code yX1_gone cX1_gone 3 (some .long)) := ⟨List.mem_of_getElem? (i := 864) (by decide +kernel), by decide +kernel⟩
theorem tw_865 : e_in (.constantLong RX4 79 (-1)) := ⟨List.mem_of_getElem? (i := 865) (by decide +kernel), by decide +kernel⟩
theorem tw_866 : e_nin (.methodLinkNest RX2 31 yX11_bit "SideVersions") := ⟨List.mem_of_getElem? (i := 866) (by decide +kernel), by decide +kernel⟩
theorem tw_867 : e_in (.methodLink RX11 270 yX2_fewest) := ⟨List.mem_of_getElem? (i := 867) (by decide +kernel), by decide +kernel⟩
theorem tw_868 : e_in (.instanceMethod yX2_fewest) := ⟨List.mem_of_getElem? (i := 868) (by decide +kernel), by decide +kernel⟩
theorem tw_869 : e_in (.selects RX2 yX2_fewest yX2_fewest) := ⟨List.mem_of_getElem? (i := 869) (by decide +kernel), by decide +kernel⟩
theorem tw_870 : e_in (.code yX2_fewest cX2_fewest 3 (some .int)) := ⟨List.mem_of_getElem? (i := 870) (by decide +kernel), by decide +kernel⟩
theorem tw_871 : e_in (.methodLink RX2 38 yX2_isEnough) := ⟨List.mem_of_getElem? (i := 871) (by decide +kernel), by decide +kernel⟩
theorem tw_872 : e_in (.static yX2_isEnough) := ⟨List.mem_of_getElem? (i := 872) (by decide +kernel), by decide +kernel⟩
theorem tw_873 : e_in (.code yX2_isEnough cX2_isEnough 7 (some .boolean)) := ⟨List.mem_of_getElem? (i := 873) (by decide +kernel), by decide +kernel⟩
theorem tw_874 : e_in (.methodLink RX2 50 yX2_lackingSites) := ⟨List.mem_of_getElem? (i := 874) (by decide +kernel), by decide +kernel⟩
theorem tw_876 : e_in (.instanceMethod yX2_lackingSites) := ⟨List.mem_of_getElem? (i := 876) (by decide +kernel), by decide +kernel⟩
theorem tw_877 : e_in (.code yX2_lackingSites cX2_lackingSites 5 (some .int)) := ⟨List.mem_of_getElem? (i := 877) (by decide +kernel), by decide +kernel⟩
theorem tw_878 : e_in (.methodLink RX2 54 yX2_setOf) := ⟨List.mem_of_getElem? (i := 878) (by decide +kernel), by decide +kernel⟩
theorem tw_879 : e_in (.static yX2_setOf) := ⟨List.mem_of_getElem? (i := 879) (by decide +kernel), by decide +kernel⟩
theorem tw_880 : e_in (.code yX2_setOf cX2_setOf 2 (some .int)) := ⟨List.mem_of_getElem? (i := 880) (by decide +kernel), by decide +kernel⟩
theorem tw_881 : e_in (.methodLink RX2 46 yX2_afterSending) := ⟨List.mem_of_getElem? (i := 881) (by decide +kernel), by decide +kernel⟩
theorem tw_883 : e_in (.instanceMethod yX2_afterSending) := ⟨List.mem_of_getElem? (i := 883) (by decide +kernel), by decide +kernel⟩
theorem tw_884 : e_in (.code yX2_afterSending cX2_afterSending 5 (some .int)) := ⟨List.mem_of_getElem? (i := 884) (by decide +kernel), by decide +kernel⟩
theorem tw_885 : e_in (.methodLink RX11 273 yX2_firstOfFewest) := ⟨List.mem_of_getElem? (i := 885) (by decide +kernel), by decide +kernel⟩
theorem tw_886 : e_in (.instanceMethod yX2_firstOfFewest) := ⟨List.mem_of_getElem? (i := 886) (by decide +kernel), by decide +kernel⟩
theorem tw_887 : e_in (.selects RX2 yX2_firstOfFewest yX2_firstOfFewest) := ⟨List.mem_of_getElem? (i := 887) (by decide +kernel), by decide +kernel⟩
theorem tw_888 : e_in (.code yX2_firstOfFewest cX2_firstOfFewest 5 (some .int)) := ⟨List.mem_of_getElem? (i := 888) (by decide +kernel), by decide +kernel⟩
theorem tw_889 : e_in (.methodLink RX2 42 yX2_fewest) := ⟨List.mem_of_getElem? (i := 889) (by decide +kernel), by decide +kernel⟩
theorem tw_890 : e_in (.methodLink RL 90 yX11_rule) := ⟨List.mem_of_getElem? (i := 890) (by decide +kernel), by decide +kernel⟩
theorem tw_891 : e_in (.instanceMethod yX11_rule) := ⟨List.mem_of_getElem? (i := 891) (by decide +kernel), by decide +kernel⟩
theorem tw_892 : e_in (.selects RX11 yX11_rule yX11_rule) := ⟨List.mem_of_getElem? (i := 892) (by decide +kernel), by decide +kernel⟩
theorem tw_893 : e_in (.code yX11_rule cX11_rule 3 (some .int)) := ⟨List.mem_of_getElem? (i := 893) (by decide +kernel), by decide +kernel⟩
theorem tw_894 : e_in (.methodLink RX11 276 yX5_keyAtPlace) := ⟨List.mem_of_getElem? (i := 894) (by decide +kernel), by decide +kernel⟩
theorem tw_895 : e_in (.instanceMethod yX5_keyAtPlace) := ⟨List.mem_of_getElem? (i := 895) (by decide +kernel), by decide +kernel⟩
theorem tw_896 : e_in (.selects RX5 yX5_keyAtPlace yX5_keyAtPlace) := ⟨List.mem_of_getElem? (i := 896) (by decide +kernel), by decide +kernel⟩
theorem tw_897 : e_in (.code yX5_keyAtPlace cX5_keyAtPlace 2 (some .int)) := ⟨List.mem_of_getElem? (i := 897) (by decide +kernel), by decide +kernel⟩
theorem tw_898 : e_in (.methodLink RX11 279 yX5_ruleAtPlace) := ⟨List.mem_of_getElem? (i := 898) (by decide +kernel), by decide +kernel⟩
theorem tw_899 : e_in (.methodLink RL 94 yX11_tally) := ⟨List.mem_of_getElem? (i := 899) (by decide +kernel), by decide +kernel⟩
theorem tw_900 : e_in (.instanceMethod yX11_tally) := ⟨List.mem_of_getElem? (i := 900) (by decide +kernel), by decide +kernel⟩
theorem tw_901 : e_in (.selects RX11 yX11_tally yX11_tally) := ⟨List.mem_of_getElem? (i := 901) (by decide +kernel), by decide +kernel⟩
theorem tw_902 : e_in (.code yX11_tally cX11_tally 5 (some .int)) := ⟨List.mem_of_getElem? (i := 902) (by decide +kernel), by decide +kernel⟩
theorem tw_903 : e_in (.methodLink RX11 285 yX4_lostTotal) := ⟨List.mem_of_getElem? (i := 903) (by decide +kernel), by decide +kernel⟩
theorem tw_904 : e_in (.instanceMethod yX4_lostTotal) := ⟨List.mem_of_getElem? (i := 904) (by decide +kernel), by decide +kernel⟩
theorem tw_905 : e_in (.selects RX4 yX4_lostTotal yX4_lostTotal) := ⟨List.mem_of_getElem? (i := 905) (by decide +kernel), by decide +kernel⟩
theorem tw_906 : e_in (.code yX4_lostTotal cX4_lostTotal 3 (some .int)) := ⟨List.mem_of_getElem? (i := 906) (by decide +kernel), by decide +kernel⟩
theorem tw_907 : e_in (.methodLink RX4 65 yX4_isLost) := ⟨List.mem_of_getElem? (i := 907) (by decide +kernel), by decide +kernel⟩
theorem tw_908 : e_in (.methodLink RL 98 yX11_count) := ⟨List.mem_of_getElem? (i := 908) (by decide +kernel), by decide +kernel⟩
theorem tw_909 : e_in (.instanceMethod yX11_count) := ⟨List.mem_of_getElem? (i := 909) (by decide +kernel), by decide +kernel⟩
theorem tw_910 : e_in (.selects RX11 yX11_count yX11_count) := ⟨List.mem_of_getElem? (i := 910) (by decide +kernel), by decide +kernel⟩
theorem tw_911 : e_in (.code yX11_count cX11_count 2 (some .int)) := ⟨List.mem_of_getElem? (i := 911) (by decide +kernel), by decide +kernel⟩
theorem tw_912 : e_in (.classLink RL 10 RX12) := ⟨List.mem_of_getElem? (i := 912) (by decide +kernel), by decide +kernel⟩
theorem tw_913 : e_in (.instantiable RX12 41) := ⟨List.mem_of_getElem? (i := 913) (by decide +kernel), by decide +kernel⟩
theorem tw_914 : e_in (.methodLink RL 12 yX12_init) := ⟨List.mem_of_getElem? (i := 914) (by decide +kernel), by decide +kernel⟩
theorem tw_915 : e_in (.instanceMethod yX12_init) := ⟨List.mem_of_getElem? (i := 915) (by decide +kernel), by decide +kernel⟩
theorem tw_916 : e_in (.code yX12_init cX12_init 1 none) := ⟨List.mem_of_getElem? (i := 916) (by decide +kernel), by decide +kernel⟩
theorem tw_917 : e_in (.methodLink RX12 1 Lib.objectInit) := ⟨List.mem_of_getElem? (i := 917) (by decide +kernel), by decide +kernel⟩
theorem tw_918 : e_in (.constant RX12 81 65536) := ⟨List.mem_of_getElem? (i := 918) (by decide +kernel), by decide +kernel⟩
theorem tw_919 : e_in (.methodLink RX12 88 yX12_begins) := ⟨List.mem_of_getElem? (i := 919) (by decide +kernel), by decide +kernel⟩
theorem tw_921 : e_in (.instanceMethod yX12_begins) := ⟨List.mem_of_getElem? (i := 921) (by decide +kernel), by decide +kernel⟩
theorem tw_922 : e_in (.code yX12_begins cX12_begins 1 none) := ⟨List.mem_of_getElem? (i := 922) (by decide +kernel), by decide +kernel⟩
theorem tw_923 : e_in (.methodLink RX12 104 yX12_forgets) := ⟨List.mem_of_getElem? (i := 923) (by decide +kernel), by decide +kernel⟩
theorem tw_925 : e_in (.instanceMethod yX12_forgets) := ⟨List.mem_of_getElem? (i := 925) (by decide +kernel), by decide +kernel⟩
theorem tw_926 : e_in (.code yX12_forgets cX12_forgets 2 none) := ⟨List.mem_of_getElem? (i := 926) (by decide +kernel), by decide +kernel⟩
theorem tw_927 : e_in (.fieldLink RX12 91 (TX12 0).1 (TX12 0).2.1 (TX12 0).2.2.1) := ⟨List.mem_of_getElem? (i := 927) (by decide +kernel), by decide +kernel⟩
theorem tw_928 : e_in (.fieldLink RX12 95 (TX12 1).1 (TX12 1).2.1 (TX12 1).2.2.1) := ⟨List.mem_of_getElem? (i := 928) (by decide +kernel), by decide +kernel⟩
theorem tw_929 : e_in (.fieldLink RX12 98 (TX12 2).1 (TX12 2).2.1 (TX12 2).2.2.1) := ⟨List.mem_of_getElem? (i := 929) (by decide +kernel), by decide +kernel⟩
theorem tw_930 : e_in (.fieldLink RX12 101 (TX12 3).1 (TX12 3).2.1 (TX12 3).2.2.1) := ⟨List.mem_of_getElem? (i := 930) (by decide +kernel), by decide +kernel⟩
theorem tw_931 : e_in (.fieldLink RX12 7 (TX12 4).1 (TX12 4).2.1 (TX12 4).2.2.1) := ⟨List.mem_of_getElem? (i := 931) (by decide +kernel), by decide +kernel⟩
theorem tw_932 : e_in (.fieldLink RX12 107 (TX12 5).1 (TX12 5).2.1 (TX12 5).2.2.1) := ⟨List.mem_of_getElem? (i := 932) (by decide +kernel), by decide +kernel⟩
theorem tw_933 : e_in (.fieldLink RX12 13 (TX12 6).1 (TX12 6).2.1 (TX12 6).2.2.1) := ⟨List.mem_of_getElem? (i := 933) (by decide +kernel), by decide +kernel⟩
theorem tw_934 : e_in (.fieldLink RX12 17 (TX12 7).1 (TX12 7).2.1 (TX12 7).2.2.1) := ⟨List.mem_of_getElem? (i := 934) (by decide +kernel), by decide +kernel⟩
theorem tw_935 : e_in (.fieldLink RX12 20 (TX12 8).1 (TX12 8).2.1 (TX12 8).2.2.1) := ⟨List.mem_of_getElem? (i := 935) (by decide +kernel), by decide +kernel⟩
theorem tw_936 : e_in (.fieldLink RX12 23 (TX12 9).1 (TX12 9).2.1 (TX12 9).2.2.1) := ⟨List.mem_of_getElem? (i := 936) (by decide +kernel), by decide +kernel⟩
theorem tw_937 : e_in (.fieldLink RX12 26 (TX12 10).1 (TX12 10).2.1 (TX12 10).2.2.1) := ⟨List.mem_of_getElem? (i := 937) (by decide +kernel), by decide +kernel⟩
theorem tw_938 : e_in (.fieldLink RX12 30 (TX12 11).1 (TX12 11).2.1 (TX12 11).2.2.1) := ⟨List.mem_of_getElem? (i := 938) (by decide +kernel), by decide +kernel⟩
theorem tw_939 : e_in (.fieldLink RX12 33 (TX12 12).1 (TX12 12).2.1 (TX12 12).2.2.1) := ⟨List.mem_of_getElem? (i := 939) (by decide +kernel), by decide +kernel⟩
theorem tw_940 : e_in (.fieldLink RX12 36 (TX12 13).1 (TX12 13).2.1 (TX12 13).2.2.1) := ⟨List.mem_of_getElem? (i := 940) (by decide +kernel), by decide +kernel⟩
theorem tw_941 : e_in (.fieldLink RX12 39 (TX12 14).1 (TX12 14).2.1 (TX12 14).2.2.1) := ⟨List.mem_of_getElem? (i := 941) (by decide +kernel), by decide +kernel⟩
theorem tw_942 : e_in (.fieldLink RX12 42 (TX12 15).1 (TX12 15).2.1 (TX12 15).2.2.1) := ⟨List.mem_of_getElem? (i := 942) (by decide +kernel), by decide +kernel⟩
theorem tw_943 : e_in (.fieldLink RX12 45 (TX12 16).1 (TX12 16).2.1 (TX12 16).2.2.1) := ⟨List.mem_of_getElem? (i := 943) (by decide +kernel), by decide +kernel⟩
theorem tw_944 : e_in (.fieldLink RX12 48 (TX12 17).1 (TX12 17).2.1 (TX12 17).2.2.1) := ⟨List.mem_of_getElem? (i := 944) (by decide +kernel), by decide +kernel⟩
theorem tw_945 : e_in (.fieldLink RX12 51 (TX12 18).1 (TX12 18).2.1 (TX12 18).2.2.1) := ⟨List.mem_of_getElem? (i := 945) (by decide +kernel), by decide +kernel⟩
theorem tw_946 : e_in (.fieldLink RX12 54 (TX12 19).1 (TX12 19).2.1 (TX12 19).2.2.1) := ⟨List.mem_of_getElem? (i := 946) (by decide +kernel), by decide +kernel⟩
theorem tw_947 : e_in (.fieldLink RX12 57 (TX12 20).1 (TX12 20).2.1 (TX12 20).2.2.1) := ⟨List.mem_of_getElem? (i := 947) (by decide +kernel), by decide +kernel⟩
theorem tw_948 : e_in (.fieldLink RX12 110 (TX12 21).1 (TX12 21).2.1 (TX12 21).2.2.1) := ⟨List.mem_of_getElem? (i := 948) (by decide +kernel), by decide +kernel⟩
theorem tw_949 : e_in (.fieldLink RX12 60 (TX12 22).1 (TX12 22).2.1 (TX12 22).2.2.1) := ⟨List.mem_of_getElem? (i := 949) (by decide +kernel), by decide +kernel⟩
theorem tw_950 : e_in (.fieldLink RX12 63 (TX12 23).1 (TX12 23).2.1 (TX12 23).2.2.1) := ⟨List.mem_of_getElem? (i := 950) (by decide +kernel), by decide +kernel⟩
theorem tw_951 : e_in (.fieldLink RX12 128 (TX12 24).1 (TX12 24).2.1 (TX12 24).2.2.1) := ⟨List.mem_of_getElem? (i := 951) (by decide +kernel), by decide +kernel⟩
theorem tw_952 : e_in (.fieldLink RX12 66 (TX12 25).1 (TX12 25).2.1 (TX12 25).2.2.1) := ⟨List.mem_of_getElem? (i := 952) (by decide +kernel), by decide +kernel⟩
theorem tw_953 : e_in (.fieldLink RX12 131 (TX12 26).1 (TX12 26).2.1 (TX12 26).2.2.1) := ⟨List.mem_of_getElem? (i := 953) (by decide +kernel), by decide +kernel⟩
theorem tw_954 : e_in (.fieldLink RX12 138 (TX12 27).1 (TX12 27).2.1 (TX12 27).2.2.1) := ⟨List.mem_of_getElem? (i := 954) (by decide +kernel), by decide +kernel⟩
theorem tw_955 : e_in (.fieldLink RX12 145 (TX12 28).1 (TX12 28).2.1 (TX12 28).2.2.1) := ⟨List.mem_of_getElem? (i := 955) (by decide +kernel), by decide +kernel⟩
theorem tw_956 : e_in (.fieldLink RX12 141 (TX12 29).1 (TX12 29).2.1 (TX12 29).2.2.1) := ⟨List.mem_of_getElem? (i := 956) (by decide +kernel), by decide +kernel⟩
theorem tw_957 : e_in (.fieldLink RX12 161 (TX12 30).1 (TX12 30).2.1 (TX12 30).2.2.1) := ⟨List.mem_of_getElem? (i := 957) (by decide +kernel), by decide +kernel⟩
theorem tw_958 : e_in (.fieldLink RX12 171 (TX12 31).1 (TX12 31).2.1 (TX12 31).2.2.1) := ⟨List.mem_of_getElem? (i := 958) (by decide +kernel), by decide +kernel⟩
theorem tw_959 : e_in (.fieldLink RX12 174 (TX12 32).1 (TX12 32).2.1 (TX12 32).2.2.1) := ⟨List.mem_of_getElem? (i := 959) (by decide +kernel), by decide +kernel⟩
theorem tw_960 : e_in (.fieldLink RX12 177 (TX12 33).1 (TX12 33).2.1 (TX12 33).2.2.1) := ⟨List.mem_of_getElem? (i := 960) (by decide +kernel), by decide +kernel⟩
theorem tw_961 : e_in (.fieldLink RX12 69 (TX12 34).1 (TX12 34).2.1 (TX12 34).2.2.1) := ⟨List.mem_of_getElem? (i := 961) (by decide +kernel), by decide +kernel⟩
theorem tw_962 : e_in (.fieldLink RX12 211 (TX12 35).1 (TX12 35).2.1 (TX12 35).2.2.1) := ⟨List.mem_of_getElem? (i := 962) (by decide +kernel), by decide +kernel⟩
theorem tw_963 : e_in (.fieldLink RX12 72 (TX12 36).1 (TX12 36).2.1 (TX12 36).2.2.1) := ⟨List.mem_of_getElem? (i := 963) (by decide +kernel), by decide +kernel⟩
theorem tw_964 : e_in (.fieldLink RX12 75 (TX12 37).1 (TX12 37).2.1 (TX12 37).2.2.1) := ⟨List.mem_of_getElem? (i := 964) (by decide +kernel), by decide +kernel⟩
theorem tw_965 : e_in (.fieldLink RX12 78 (TX12 38).1 (TX12 38).2.1 (TX12 38).2.2.1) := ⟨List.mem_of_getElem? (i := 965) (by decide +kernel), by decide +kernel⟩
theorem tw_966 : e_in (.fieldLink RX12 82 (TX12 39).1 (TX12 39).2.1 (TX12 39).2.2.1) := ⟨List.mem_of_getElem? (i := 966) (by decide +kernel), by decide +kernel⟩
theorem tw_967 : e_in (.fieldLink RX12 85 (TX12 40).1 (TX12 40).2.1 (TX12 40).2.2.1) := ⟨List.mem_of_getElem? (i := 967) (by decide +kernel), by decide +kernel⟩
theorem tw_1051 : e_in (.arrayClass .boolean) := ⟨List.mem_of_getElem? (i := 1051) (by decide +kernel), by decide +kernel⟩
theorem tw_1052 : e_in (.methodLink RL 17 yX12_type) := ⟨List.mem_of_getElem? (i := 1052) (by decide +kernel), by decide +kernel⟩
theorem tw_1053 : e_in (.instanceMethod yX12_type) := ⟨List.mem_of_getElem? (i := 1053) (by decide +kernel), by decide +kernel⟩
theorem tw_1054 : e_in (.selects RX12 yX12_type yX12_type) := ⟨List.mem_of_getElem? (i := 1054) (by decide +kernel), by decide +kernel⟩
theorem tw_1055 : e_in (.code yX12_type cX12_type 2 (some .int)) := ⟨List.mem_of_getElem? (i := 1055) (by decide +kernel), by decide +kernel⟩
theorem tw_1056 : e_in (.constantLong RX12 126 255) := ⟨List.mem_of_getElem? (i := 1056) (by decide +kernel), by decide +kernel⟩
theorem tw_1057 : e_in (.methodLink RX12 113 yX12_in) := ⟨List.mem_of_getElem? (i := 1057) (by decide +kernel), by decide +kernel⟩
theorem tw_1058 : e_in (.static yX12_in) := ⟨List.mem_of_getElem? (i := 1058) (by decide +kernel), by decide +kernel⟩
theorem tw_1059 : e_in (.code yX12_in cX12_in 6 (some .boolean)) := ⟨List.mem_of_getElem? (i := 1059) (by decide +kernel), by decide +kernel⟩
theorem tw_1060 : e_in (.methodLink RL 22 yX12_clear) := ⟨List.mem_of_getElem? (i := 1060) (by decide +kernel), by decide +kernel⟩
theorem tw_1061 : e_in (.instanceMethod yX12_clear) := ⟨List.mem_of_getElem? (i := 1061) (by decide +kernel), by decide +kernel⟩
theorem tw_1062 : e_in (.selects RX12 yX12_clear yX12_clear) := ⟨List.mem_of_getElem? (i := 1062) (by decide +kernel), by decide +kernel⟩
theorem tw_1063 : e_in (.code yX12_clear cX12_clear 2 (some .int)) := ⟨List.mem_of_getElem? (i := 1063) (by decide +kernel), by decide +kernel⟩
theorem tw_1064 : e_in (.methodLink RL 26 yX12_tells) := ⟨List.mem_of_getElem? (i := 1064) (by decide +kernel), by decide +kernel⟩
theorem tw_1065 : e_in (.instanceMethod yX12_tells) := ⟨List.mem_of_getElem? (i := 1065) (by decide +kernel), by decide +kernel⟩
theorem tw_1066 : e_in (.selects RX12 yX12_tells yX12_tells) := ⟨List.mem_of_getElem? (i := 1066) (by decide +kernel), by decide +kernel⟩
theorem tw_1067 : e_in (.code yX12_tells cX12_tells 3 (some .int)) := ⟨List.mem_of_getElem? (i := 1067) (by decide +kernel), by decide +kernel⟩
theorem tw_1068 : e_in (.methodLink RX12 134 yX12_isBetween) := ⟨List.mem_of_getElem? (i := 1068) (by decide +kernel), by decide +kernel⟩
theorem tw_1070 : e_in (.instanceMethod yX12_isBetween) := ⟨List.mem_of_getElem? (i := 1070) (by decide +kernel), by decide +kernel⟩
theorem tw_1071 : e_in (.code yX12_isBetween cX12_isBetween 3 (some .boolean)) := ⟨List.mem_of_getElem? (i := 1071) (by decide +kernel), by decide +kernel⟩
theorem tw_1072 : e_in (.methodLink RX12 180 yX12_readsItem) := ⟨List.mem_of_getElem? (i := 1072) (by decide +kernel), by decide +kernel⟩
theorem tw_1074 : e_in (.instanceMethod yX12_readsItem) := ⟨List.mem_of_getElem? (i := 1074) (by decide +kernel), by decide +kernel⟩
theorem tw_1075 : e_in (.code yX12_readsItem cX12_readsItem 4 (some .boolean)) := ⟨List.mem_of_getElem? (i := 1075) (by decide +kernel), by decide +kernel⟩
theorem tw_1076 : e_in (.methodLink RX12 154 yX12_next) := ⟨List.mem_of_getElem? (i := 1076) (by decide +kernel), by decide +kernel⟩
theorem tw_1078 : e_in (.instanceMethod yX12_next) := ⟨List.mem_of_getElem? (i := 1078) (by decide +kernel), by decide +kernel⟩
theorem tw_1079 : e_in (.code yX12_next cX12_next 1 none) := ⟨List.mem_of_getElem? (i := 1079) (by decide +kernel), by decide +kernel⟩
theorem tw_1080 : e_in (.constantLong RX12 148 32) := ⟨List.mem_of_getElem? (i := 1080) (by decide +kernel), by decide +kernel⟩
theorem tw_1081 : e_in (.constantLong RX12 150 97) := ⟨List.mem_of_getElem? (i := 1081) (by decide +kernel), by decide +kernel⟩
theorem tw_1082 : e_in (.constantLong RX12 152 (-1)) := ⟨List.mem_of_getElem? (i := 1082) (by decide +kernel), by decide +kernel⟩
theorem tw_1083 : e_in (.methodLink RX12 157 yX12_word) := ⟨List.mem_of_getElem? (i := 1083) (by decide +kernel), by decide +kernel⟩
theorem tw_1084 : e_in (.static yX12_word) := ⟨List.mem_of_getElem? (i := 1084) (by decide +kernel), by decide +kernel⟩
theorem tw_1085 : e_in (.code yX12_word cX12_word 5 (some .long)) := ⟨List.mem_of_getElem? (i := 1085) (by decide +kernel), by decide +kernel⟩
theorem tw_1086 : e_in (.methodLink RX12 164 yX12_number) := ⟨List.mem_of_getElem? (i := 1086) (by decide +kernel), by decide +kernel⟩
theorem tw_1088 : e_in (.instanceMethod yX12_number) := ⟨List.mem_of_getElem? (i := 1088) (by decide +kernel), by decide +kernel⟩
theorem tw_1089 : e_in (.code yX12_number cX12_number 3 (some .boolean)) := ⟨List.mem_of_getElem? (i := 1089) (by decide +kernel), by decide +kernel⟩
theorem tw_1090 : e_in (.methodLink RX12 167 yX12_stops) := ⟨List.mem_of_getElem? (i := 1090) (by decide +kernel), by decide +kernel⟩
theorem tw_1092 : e_in (.instanceMethod yX12_stops) := ⟨List.mem_of_getElem? (i := 1092) (by decide +kernel), by decide +kernel⟩
theorem tw_1093 : e_in (.code yX12_stops cX12_stops 1 (some .boolean)) := ⟨List.mem_of_getElem? (i := 1093) (by decide +kernel), by decide +kernel⟩
theorem tw_1094 : e_in (.methodLink RL 31 yX12_reads) := ⟨List.mem_of_getElem? (i := 1094) (by decide +kernel), by decide +kernel⟩
theorem tw_1095 : e_in (.instanceMethod yX12_reads) := ⟨List.mem_of_getElem? (i := 1095) (by decide +kernel), by decide +kernel⟩
theorem tw_1096 : e_in (.selects RX12 yX12_reads yX12_reads) := ⟨List.mem_of_getElem? (i := 1096) (by decide +kernel), by decide +kernel⟩
theorem tw_1097 : e_in (.code yX12_reads cX12_reads 9 (some .int)) := ⟨List.mem_of_getElem? (i := 1097) (by decide +kernel), by decide +kernel⟩
theorem tw_1098 : e_in (.methodLink RX12 193 yX12_isClient) := ⟨List.mem_of_getElem? (i := 1098) (by decide +kernel), by decide +kernel⟩
theorem tw_1099 : e_in (.static yX12_isClient) := ⟨List.mem_of_getElem? (i := 1099) (by decide +kernel), by decide +kernel⟩
theorem tw_1100 : e_in (.code yX12_isClient cX12_isClient 1 (some .boolean)) := ⟨List.mem_of_getElem? (i := 1100) (by decide +kernel), by decide +kernel⟩
theorem tw_1101 : e_in (.constantLong RX12 117 3) := ⟨List.mem_of_getElem? (i := 1101) (by decide +kernel), by decide +kernel⟩
theorem tw_1102 : e_in (.methodLink RX12 123 yX12_isSite) := ⟨List.mem_of_getElem? (i := 1102) (by decide +kernel), by decide +kernel⟩
theorem tw_1104 : e_in (.instanceMethod yX12_isSite) := ⟨List.mem_of_getElem? (i := 1104) (by decide +kernel), by decide +kernel⟩
theorem tw_1105 : e_in (.code yX12_isSite cX12_isSite 2 (some .boolean)) := ⟨List.mem_of_getElem? (i := 1105) (by decide +kernel), by decide +kernel⟩
theorem tw_1106 : e_in (.methodLink RX12 119 yX12_isKey) := ⟨List.mem_of_getElem? (i := 1106) (by decide +kernel), by decide +kernel⟩
theorem tw_1108 : e_in (.instanceMethod yX12_isKey) := ⟨List.mem_of_getElem? (i := 1108) (by decide +kernel), by decide +kernel⟩
theorem tw_1109 : e_in (.code yX12_isKey cX12_isKey 2 (some .boolean)) := ⟨List.mem_of_getElem? (i := 1109) (by decide +kernel), by decide +kernel⟩
theorem tw_1110 : e_in (.methodLink RX12 196 yX12_rowAt) := ⟨List.mem_of_getElem? (i := 1110) (by decide +kernel), by decide +kernel⟩
theorem tw_1111 : e_in (.static yX12_rowAt) := ⟨List.mem_of_getElem? (i := 1111) (by decide +kernel), by decide +kernel⟩
theorem tw_1112 : e_in (.code yX12_rowAt cX12_rowAt 2 (some .int)) := ⟨List.mem_of_getElem? (i := 1112) (by decide +kernel), by decide +kernel⟩
theorem tw_1113 : e_in (.methodLink RX12 199 yX12_at) := ⟨List.mem_of_getElem? (i := 1113) (by decide +kernel), by decide +kernel⟩
theorem tw_1114 : e_in (.static yX12_at) := ⟨List.mem_of_getElem? (i := 1114) (by decide +kernel), by decide +kernel⟩
theorem tw_1115 : e_in (.code yX12_at cX12_at 3 (some .int)) := ⟨List.mem_of_getElem? (i := 1115) (by decide +kernel), by decide +kernel⟩
theorem tw_1116 : e_in (.methodLink RX12 183 yX12_has) := ⟨List.mem_of_getElem? (i := 1116) (by decide +kernel), by decide +kernel⟩
theorem tw_1117 : e_in (.static yX12_has) := ⟨List.mem_of_getElem? (i := 1117) (by decide +kernel), by decide +kernel⟩
theorem tw_1118 : e_in (.code yX12_has cX12_has 2 (some .boolean)) := ⟨List.mem_of_getElem? (i := 1118) (by decide +kernel), by decide +kernel⟩
theorem tw_1119 : e_in (.methodLink RX12 186 yX12_siblings) := ⟨List.mem_of_getElem? (i := 1119) (by decide +kernel), by decide +kernel⟩
theorem tw_1121 : e_in (.instanceMethod yX12_siblings) := ⟨List.mem_of_getElem? (i := 1121) (by decide +kernel), by decide +kernel⟩
theorem tw_1122 : e_in (.code yX12_siblings cX12_siblings 5 (some .int)) := ⟨List.mem_of_getElem? (i := 1122) (by decide +kernel), by decide +kernel⟩
theorem tw_1123 : e_in (.methodLink RL 38 yX12_writes) := ⟨List.mem_of_getElem? (i := 1123) (by decide +kernel), by decide +kernel⟩
theorem tw_1124 : e_in (.instanceMethod yX12_writes) := ⟨List.mem_of_getElem? (i := 1124) (by decide +kernel), by decide +kernel⟩
theorem tw_1125 : e_in (.selects RX12 yX12_writes yX12_writes) := ⟨List.mem_of_getElem? (i := 1125) (by decide +kernel), by decide +kernel⟩
theorem tw_1126 : e_in (.code yX12_writes cX12_writes 13 (some .int)) := ⟨List.mem_of_getElem? (i := 1126) (by decide +kernel), by decide +kernel⟩
theorem tw_1127 : e_in (.methodLink RX12 207 yX12_comes) := ⟨List.mem_of_getElem? (i := 1127) (by decide +kernel), by decide +kernel⟩
theorem tw_1129 : e_in (.instanceMethod yX12_comes) := ⟨List.mem_of_getElem? (i := 1129) (by decide +kernel), by decide +kernel⟩
theorem tw_1130 : e_in (.code yX12_comes cX12_comes 9 (some .int)) := ⟨List.mem_of_getElem? (i := 1130) (by decide +kernel), by decide +kernel⟩
theorem tw_1131 : e_in (.methodLink RX12 203 yX12_bounds) := ⟨List.mem_of_getElem? (i := 1131) (by decide +kernel), by decide +kernel⟩
theorem tw_1133 : e_in (.instanceMethod yX12_bounds) := ⟨List.mem_of_getElem? (i := 1133) (by decide +kernel), by decide +kernel⟩
theorem tw_1134 : e_in (.code yX12_bounds cX12_bounds 4 none) := ⟨List.mem_of_getElem? (i := 1134) (by decide +kernel), by decide +kernel⟩
theorem tw_1135 : e_in (.methodLink RX12 190 yX12_eldest) := ⟨List.mem_of_getElem? (i := 1135) (by decide +kernel), by decide +kernel⟩
theorem tw_1137 : e_in (.instanceMethod yX12_eldest) := ⟨List.mem_of_getElem? (i := 1137) (by decide +kernel), by decide +kernel⟩
theorem tw_1138 : e_in (.code yX12_eldest cX12_eldest 5 (some .int)) := ⟨List.mem_of_getElem? (i := 1138) (by decide +kernel), by decide +kernel⟩
theorem tw_1139 : e_in (.methodLink RL 42 yX12_blinds) := ⟨List.mem_of_getElem? (i := 1139) (by decide +kernel), by decide +kernel⟩
theorem tw_1140 : e_in (.instanceMethod yX12_blinds) := ⟨List.mem_of_getElem? (i := 1140) (by decide +kernel), by decide +kernel⟩
theorem tw_1141 : e_in (.selects RX12 yX12_blinds yX12_blinds) := ⟨List.mem_of_getElem? (i := 1141) (by decide +kernel), by decide +kernel⟩
theorem tw_1142 : e_in (.code yX12_blinds cX12_blinds 3 (some .int)) := ⟨List.mem_of_getElem? (i := 1142) (by decide +kernel), by decide +kernel⟩
theorem tw_1143 : e_in (.methodLink RL 46 yX12_sends) := ⟨List.mem_of_getElem? (i := 1143) (by decide +kernel), by decide +kernel⟩
theorem tw_1144 : e_in (.instanceMethod yX12_sends) := ⟨List.mem_of_getElem? (i := 1144) (by decide +kernel), by decide +kernel⟩
theorem tw_1145 : e_in (.selects RX12 yX12_sends yX12_sends) := ⟨List.mem_of_getElem? (i := 1145) (by decide +kernel), by decide +kernel⟩
theorem tw_1146 : e_in (.code yX12_sends cX12_sends 12 (some .int)) := ⟨List.mem_of_getElem? (i := 1146) (by decide +kernel), by decide +kernel⟩
theorem tw_1147 : e_in (.methodLink RL 51 yX12_merges) := ⟨List.mem_of_getElem? (i := 1147) (by decide +kernel), by decide +kernel⟩
theorem tw_1148 : e_in (.instanceMethod yX12_merges) := ⟨List.mem_of_getElem? (i := 1148) (by decide +kernel), by decide +kernel⟩
theorem tw_1149 : e_in (.selects RX12 yX12_merges yX12_merges) := ⟨List.mem_of_getElem? (i := 1149) (by decide +kernel), by decide +kernel⟩
theorem tw_1150 : e_in (.code yX12_merges cX12_merges 8 (some .int)) := ⟨List.mem_of_getElem? (i := 1150) (by decide +kernel), by decide +kernel⟩
theorem tw_1151 : e_in (.methodLink RX12 228 yX12_ruleOf) := ⟨List.mem_of_getElem? (i := 1151) (by decide +kernel), by decide +kernel⟩
theorem tw_1153 : e_in (.instanceMethod yX12_ruleOf) := ⟨List.mem_of_getElem? (i := 1153) (by decide +kernel), by decide +kernel⟩
theorem tw_1154 : e_in (.code yX12_ruleOf cX12_ruleOf 3 (some .int)) := ⟨List.mem_of_getElem? (i := 1154) (by decide +kernel), by decide +kernel⟩
theorem tw_1155 : e_in (.methodLink RX12 232 yX12_joinedAll) := ⟨List.mem_of_getElem? (i := 1155) (by decide +kernel), by decide +kernel⟩
theorem tw_1157 : e_in (.instanceMethod yX12_joinedAll) := ⟨List.mem_of_getElem? (i := 1157) (by decide +kernel), by decide +kernel⟩
theorem tw_1158 : e_in (.code yX12_joinedAll cX12_joinedAll 12 (some .long)) := ⟨List.mem_of_getElem? (i := 1158) (by decide +kernel), by decide +kernel⟩
theorem tw_1159 : e_in (.methodLink RX12 222 yX12_joined) := ⟨List.mem_of_getElem? (i := 1159) (by decide +kernel), by decide +kernel⟩
theorem tw_1161 : e_in (.instanceMethod yX12_joined) := ⟨List.mem_of_getElem? (i := 1161) (by decide +kernel), by decide +kernel⟩
theorem tw_1162 : e_in (.code yX12_joined cX12_joined 7 (some .long)) := ⟨List.mem_of_getElem? (i := 1162) (by decide +kernel), by decide +kernel⟩
theorem tw_1163 : e_in (.methodLink RX12 215 yX12_sum) := ⟨List.mem_of_getElem? (i := 1163) (by decide +kernel), by decide +kernel⟩
theorem tw_1165 : e_in (.instanceMethod yX12_sum) := ⟨List.mem_of_getElem? (i := 1165) (by decide +kernel), by decide +kernel⟩
theorem tw_1166 : e_in (.code yX12_sum cX12_sum 7 (some .long)) := ⟨List.mem_of_getElem? (i := 1166) (by decide +kernel), by decide +kernel⟩
theorem tw_1167 : e_in (.methodLink RX12 219 yX12_common) := ⟨List.mem_of_getElem? (i := 1167) (by decide +kernel), by decide +kernel⟩
theorem tw_1168 : e_in (.static yX12_common) := ⟨List.mem_of_getElem? (i := 1168) (by decide +kernel), by decide +kernel⟩
theorem tw_1169 : e_in (.code yX12_common cX12_common 10 (some .long)) := ⟨List.mem_of_getElem? (i := 1169) (by decide +kernel), by decide +kernel⟩
theorem tw_1170 : e_in (.constantLong RX12 226 (-9223372036854775808)) := ⟨List.mem_of_getElem? (i := 1170) (by decide +kernel), by decide +kernel⟩
theorem tw_1171 : e_in (.methodLink RL 55 yX12_rules) := ⟨List.mem_of_getElem? (i := 1171) (by decide +kernel), by decide +kernel⟩
theorem tw_1172 : e_in (.instanceMethod yX12_rules) := ⟨List.mem_of_getElem? (i := 1172) (by decide +kernel), by decide +kernel⟩
theorem tw_1173 : e_in (.selects RX12 yX12_rules yX12_rules) := ⟨List.mem_of_getElem? (i := 1173) (by decide +kernel), by decide +kernel⟩
theorem tw_1174 : e_in (.code yX12_rules cX12_rules 4 (some .int)) := ⟨List.mem_of_getElem? (i := 1174) (by decide +kernel), by decide +kernel⟩
theorem tw_1175 : e_in (.constantLong RX12 236 4) := ⟨List.mem_of_getElem? (i := 1175) (by decide +kernel), by decide +kernel⟩
theorem tw_1176 : e_in (.methodLink RL 59 yX12_row) := ⟨List.mem_of_getElem? (i := 1176) (by decide +kernel), by decide +kernel⟩
theorem tw_1177 : e_in (.instanceMethod yX12_row) := ⟨List.mem_of_getElem? (i := 1177) (by decide +kernel), by decide +kernel⟩
theorem tw_1178 : e_in (.selects RX12 yX12_row yX12_row) := ⟨List.mem_of_getElem? (i := 1178) (by decide +kernel), by decide +kernel⟩
theorem tw_1179 : e_in (.code yX12_row cX12_row 4 (some .int)) := ⟨List.mem_of_getElem? (i := 1179) (by decide +kernel), by decide +kernel⟩
theorem tw_1180 : e_in (.methodLink RL 64 yX12_sibling) := ⟨List.mem_of_getElem? (i := 1180) (by decide +kernel), by decide +kernel⟩
theorem tw_1181 : e_in (.instanceMethod yX12_sibling) := ⟨List.mem_of_getElem? (i := 1181) (by decide +kernel), by decide +kernel⟩
theorem tw_1182 : e_in (.selects RX12 yX12_sibling yX12_sibling) := ⟨List.mem_of_getElem? (i := 1182) (by decide +kernel), by decide +kernel⟩
theorem tw_1183 : e_in (.code yX12_sibling cX12_sibling 8 (some .long)) := ⟨List.mem_of_getElem? (i := 1183) (by decide +kernel), by decide +kernel⟩
theorem tw_1184 : e_in (.constantLong RX12 238 (-9)) := ⟨List.mem_of_getElem? (i := 1184) (by decide +kernel), by decide +kernel⟩
theorem tw_1185 : e_in (.methodLink RL 68 yX12_context) := ⟨List.mem_of_getElem? (i := 1185) (by decide +kernel), by decide +kernel⟩
theorem tw_1186 : e_in (.instanceMethod yX12_context) := ⟨List.mem_of_getElem? (i := 1186) (by decide +kernel), by decide +kernel⟩
theorem tw_1187 : e_in (.selects RX12 yX12_context yX12_context) := ⟨List.mem_of_getElem? (i := 1187) (by decide +kernel), by decide +kernel⟩
theorem tw_1188 : e_in (.code yX12_context cX12_context 3 (some .int)) := ⟨List.mem_of_getElem? (i := 1188) (by decide +kernel), by decide +kernel⟩
theorem tw_1189 : e_in (.constantLong RX12 240 7) := ⟨List.mem_of_getElem? (i := 1189) (by decide +kernel), by decide +kernel⟩
theorem tw_1190 : e_in (.methodLink RL 72 yX12_write) := ⟨List.mem_of_getElem? (i := 1190) (by decide +kernel), by decide +kernel⟩
theorem tw_1191 : e_in (.instanceMethod yX12_write) := ⟨List.mem_of_getElem? (i := 1191) (by decide +kernel), by decide +kernel⟩
theorem tw_1192 : e_in (.selects RX12 yX12_write yX12_write) := ⟨List.mem_of_getElem? (i := 1192) (by decide +kernel), by decide +kernel⟩
theorem tw_1193 : e_in (.code yX12_write cX12_write 6 (some .long)) := ⟨List.mem_of_getElem? (i := 1193) (by decide +kernel), by decide +kernel⟩
theorem tw_1194 : e_in (.methodLink RX12 242 yX12_isWrite) := ⟨List.mem_of_getElem? (i := 1194) (by decide +kernel), by decide +kernel⟩
theorem tw_1196 : e_in (.instanceMethod yX12_isWrite) := ⟨List.mem_of_getElem? (i := 1196) (by decide +kernel), by decide +kernel⟩
theorem tw_1197 : e_in (.code yX12_isWrite cX12_isWrite 4 (some .boolean)) := ⟨List.mem_of_getElem? (i := 1197) (by decide +kernel), by decide +kernel⟩
theorem tw_1198 : e_in (.methodLink RX12 246 yX12_bit) := ⟨List.mem_of_getElem? (i := 1198) (by decide +kernel), by decide +kernel⟩
theorem tw_1199 : e_in (.static yX12_bit) := ⟨List.mem_of_getElem? (i := 1199) (by decide +kernel), by decide +kernel⟩
theorem tw_1200 : e_in (.code yX12_bit cX12_bit 1 (some .int)) := ⟨List.mem_of_getElem? (i := 1200) (by decide +kernel), by decide +kernel⟩
theorem tw_1201 : e_in (.methodLink RX12 250 yX12_isLost) := ⟨List.mem_of_getElem? (i := 1201) (by decide +kernel), by decide +kernel⟩
theorem tw_1203 : e_in (.instanceMethod yX12_isLost) := ⟨List.mem_of_getElem? (i := 1203) (by decide +kernel), by decide +kernel⟩
theorem tw_1204 : e_in (.code yX12_isLost cX12_isLost 2 (some .boolean)) := ⟨List.mem_of_getElem? (i := 1204) (by decide +kernel), by decide +kernel⟩
theorem tw_1205 : e_in (.methodLink RL 77 yX12_ahead) := ⟨List.mem_of_getElem? (i := 1205) (by decide +kernel), by decide +kernel⟩
theorem tw_1206 : e_in (.instanceMethod yX12_ahead) := ⟨List.mem_of_getElem? (i := 1206) (by decide +kernel), by decide +kernel⟩
theorem tw_1207 : e_in (.selects RX12 yX12_ahead yX12_ahead) := ⟨List.mem_of_getElem? (i := 1207) (by decide +kernel), by decide +kernel⟩
theorem tw_1208 : e_in (.code yX12_ahead cX12_ahead 8 (some .int)) := ⟨List.mem_of_getElem? (i := 1208) (by decide +kernel), by decide +kernel⟩
theorem tw_1209 : e_in (.methodLink RL 81 yX12_alike) := ⟨List.mem_of_getElem? (i := 1209) (by decide +kernel), by decide +kernel⟩
theorem tw_1210 : e_in (.instanceMethod yX12_alike) := ⟨List.mem_of_getElem? (i := 1210) (by decide +kernel), by decide +kernel⟩
theorem tw_1211 : e_in (.selects RX12 yX12_alike yX12_alike) := ⟨List.mem_of_getElem? (i := 1211) (by decide +kernel), by decide +kernel⟩
theorem tw_1212 : e_in (.code yX12_alike cX12_alike 4 (some .int)) := ⟨List.mem_of_getElem? (i := 1212) (by decide +kernel), by decide +kernel⟩
theorem tw_1213 : e_in (.methodLink RX12 253 yX12_areAlike) := ⟨List.mem_of_getElem? (i := 1213) (by decide +kernel), by decide +kernel⟩
theorem tw_1215 : e_in (.instanceMethod yX12_areAlike) := ⟨List.mem_of_getElem? (i := 1215) (by decide +kernel), by decide +kernel⟩
theorem tw_1216 : e_in (.code yX12_areAlike cX12_areAlike 6 (some .boolean)) := ⟨List.mem_of_getElem? (i := 1216) (by decide +kernel), by decide +kernel⟩
theorem tw_1217 : e_in (.methodLink RL 85 yX12_behind) := ⟨List.mem_of_getElem? (i := 1217) (by decide +kernel), by decide +kernel⟩
theorem tw_1218 : e_in (.instanceMethod yX12_behind) := ⟨List.mem_of_getElem? (i := 1218) (by decide +kernel), by decide +kernel⟩
theorem tw_1219 : e_in (.selects RX12 yX12_behind yX12_behind) := ⟨List.mem_of_getElem? (i := 1219) (by decide +kernel), by decide +kernel⟩
theorem tw_1220 : e_in (.code yX12_behind cX12_behind 8 (some .int)) := ⟨List.mem_of_getElem? (i := 1220) (by decide +kernel), by decide +kernel⟩
theorem tw_1221 : e_in (.methodLink RL 89 yX12_spread) := ⟨List.mem_of_getElem? (i := 1221) (by decide +kernel), by decide +kernel⟩
theorem tw_1222 : e_in (.instanceMethod yX12_spread) := ⟨List.mem_of_getElem? (i := 1222) (by decide +kernel), by decide +kernel⟩
theorem tw_1223 : e_in (.selects RX12 yX12_spread yX12_spread) := ⟨List.mem_of_getElem? (i := 1223) (by decide +kernel), by decide +kernel⟩
theorem tw_1224 : e_in (.code yX12_spread cX12_spread 8 (some .int)) := ⟨List.mem_of_getElem? (i := 1224) (by decide +kernel), by decide +kernel⟩
theorem tw_1225 : e_in (.methodLink RX12 272 yX12_laysSets) := ⟨List.mem_of_getElem? (i := 1225) (by decide +kernel), by decide +kernel⟩
theorem tw_1227 : e_in (.instanceMethod yX12_laysSets) := ⟨List.mem_of_getElem? (i := 1227) (by decide +kernel), by decide +kernel⟩
theorem tw_1228 : e_in (.code yX12_laysSets cX12_laysSets 5 none) := ⟨List.mem_of_getElem? (i := 1228) (by decide +kernel), by decide +kernel⟩
theorem tw_1229 : e_in (.methodLink RX12 256 yX12_joinsSet) := ⟨List.mem_of_getElem? (i := 1229) (by decide +kernel), by decide +kernel⟩
theorem tw_1231 : e_in (.instanceMethod yX12_joinsSet) := ⟨List.mem_of_getElem? (i := 1231) (by decide +kernel), by decide +kernel⟩
theorem tw_1232 : e_in (.code yX12_joinsSet cX12_joinsSet 13 none) := ⟨List.mem_of_getElem? (i := 1232) (by decide +kernel), by decide +kernel⟩
theorem tw_1233 : e_in (.methodLink RX12 260 yX12_areLike) := ⟨List.mem_of_getElem? (i := 1233) (by decide +kernel), by decide +kernel⟩
theorem tw_1235 : e_in (.instanceMethod yX12_areLike) := ⟨List.mem_of_getElem? (i := 1235) (by decide +kernel), by decide +kernel⟩
theorem tw_1236 : e_in (.code yX12_areLike cX12_areLike 5 (some .boolean)) := ⟨List.mem_of_getElem? (i := 1236) (by decide +kernel), by decide +kernel⟩
theorem tw_1237 : e_in (.methodLink RX12 276 yX12_fewest) := ⟨List.mem_of_getElem? (i := 1237) (by decide +kernel), by decide +kernel⟩
theorem tw_1239 : e_in (.instanceMethod yX12_fewest) := ⟨List.mem_of_getElem? (i := 1239) (by decide +kernel), by decide +kernel⟩
theorem tw_1240 : e_in (.code yX12_fewest cX12_fewest 7 (some .int)) := ⟨List.mem_of_getElem? (i := 1240) (by decide +kernel), by decide +kernel⟩
theorem tw_1241 : e_in (.methodLink RX12 266 yX12_isAll) := ⟨List.mem_of_getElem? (i := 1241) (by decide +kernel), by decide +kernel⟩
theorem tw_1243 : e_in (.instanceMethod yX12_isAll) := ⟨List.mem_of_getElem? (i := 1243) (by decide +kernel), by decide +kernel⟩
theorem tw_1244 : e_in (.code yX12_isAll cX12_isAll 4 (some .boolean)) := ⟨List.mem_of_getElem? (i := 1244) (by decide +kernel), by decide +kernel⟩
theorem tw_1245 : e_in (.methodLink RX12 263 yX12_setOf) := ⟨List.mem_of_getElem? (i := 1245) (by decide +kernel), by decide +kernel⟩
theorem tw_1246 : e_in (.static yX12_setOf) := ⟨List.mem_of_getElem? (i := 1246) (by decide +kernel), by decide +kernel⟩
theorem tw_1247 : e_in (.code yX12_setOf cX12_setOf 2 (some .int)) := ⟨List.mem_of_getElem? (i := 1247) (by decide +kernel), by decide +kernel⟩
theorem tw_1248 : e_in (.methodLink RX12 269 yX12_sent) := ⟨List.mem_of_getElem? (i := 1248) (by decide +kernel), by decide +kernel⟩
theorem tw_1249 : e_in (.static yX12_sent) := ⟨List.mem_of_getElem? (i := 1249) (by decide +kernel), by decide +kernel⟩
theorem tw_1250 : e_in (.code yX12_sent cX12_sent 3 (some .int)) := ⟨List.mem_of_getElem? (i := 1250) (by decide +kernel), by decide +kernel⟩
theorem tw_1251 : e_in (.methodLink RL 93 yX12_rule) := ⟨List.mem_of_getElem? (i := 1251) (by decide +kernel), by decide +kernel⟩
theorem tw_1252 : e_in (.instanceMethod yX12_rule) := ⟨List.mem_of_getElem? (i := 1252) (by decide +kernel), by decide +kernel⟩
theorem tw_1253 : e_in (.selects RX12 yX12_rule yX12_rule) := ⟨List.mem_of_getElem? (i := 1253) (by decide +kernel), by decide +kernel⟩
theorem tw_1254 : e_in (.code yX12_rule cX12_rule 3 (some .int)) := ⟨List.mem_of_getElem? (i := 1254) (by decide +kernel), by decide +kernel⟩
theorem tw_1255 : e_in (.methodLink RL 97 yX12_tally) := ⟨List.mem_of_getElem? (i := 1255) (by decide +kernel), by decide +kernel⟩
theorem tw_1256 : e_in (.instanceMethod yX12_tally) := ⟨List.mem_of_getElem? (i := 1256) (by decide +kernel), by decide +kernel⟩
theorem tw_1257 : e_in (.selects RX12 yX12_tally yX12_tally) := ⟨List.mem_of_getElem? (i := 1257) (by decide +kernel), by decide +kernel⟩
theorem tw_1258 : e_in (.code yX12_tally cX12_tally 3 (some .int)) := ⟨List.mem_of_getElem? (i := 1258) (by decide +kernel), by decide +kernel⟩
theorem tw_1259 : e_in (.constantLong RX12 279 6) := ⟨List.mem_of_getElem? (i := 1259) (by decide +kernel), by decide +kernel⟩
theorem tw_1260 : e_in (.methodLink RX12 281 yX12_counted) := ⟨List.mem_of_getElem? (i := 1260) (by decide +kernel), by decide +kernel⟩
theorem tw_1262 : e_in (.instanceMethod yX12_counted) := ⟨List.mem_of_getElem? (i := 1262) (by decide +kernel), by decide +kernel⟩
theorem tw_1263 : e_in (.code yX12_counted cX12_counted 8 (some .int)) := ⟨List.mem_of_getElem? (i := 1263) (by decide +kernel), by decide +kernel⟩
theorem tw_1264 : e_in (.methodLink RL 101 yX12_count) := ⟨List.mem_of_getElem? (i := 1264) (by decide +kernel), by decide +kernel⟩
theorem tw_1265 : e_in (.instanceMethod yX12_count) := ⟨List.mem_of_getElem? (i := 1265) (by decide +kernel), by decide +kernel⟩
theorem tw_1266 : e_in (.selects RX12 yX12_count yX12_count) := ⟨List.mem_of_getElem? (i := 1266) (by decide +kernel), by decide +kernel⟩
theorem tw_1267 : e_in (.code yX12_count cX12_count 2 (some .int)) := ⟨List.mem_of_getElem? (i := 1267) (by decide +kernel), by decide +kernel⟩
theorem tw_1268 : e_in (.constantLong RL 32 4294967295) := ⟨List.mem_of_getElem? (i := 1268) (by decide +kernel), by decide +kernel⟩
