theorem dX12_init_0 : decode cX12_init 0 = .ok (.aload_n 0, 1) := by decide +kernel
theorem dX12_init_1 : decode cX12_init 1 = .ok (.invokespecial 1, 3) := by decide +kernel
theorem dX12_init_4 : decode cX12_init 4 = .ok (.aload_n 0, 1) := by decide +kernel
theorem dX12_init_5 : decode cX12_init 5 = .ok (.iconst 4, 1) := by decide +kernel
theorem dX12_init_6 : decode cX12_init 6 = .ok (.newarray .int, 2) := by decide +kernel
theorem dX12_init_8 : decode cX12_init 8 = .ok (.putfield 7, 3) := by decide +kernel
theorem dX12_init_11 : decode cX12_init 11 = .ok (.aload_n 0, 1) := by decide +kernel
theorem dX12_init_12 : decode cX12_init 12 = .ok (.sipush 656, 3) := by decide +kernel
theorem dX12_init_15 : decode cX12_init 15 = .ok (.newarray .long, 2) := by decide +kernel
theorem dX12_init_17 : decode cX12_init 17 = .ok (.putfield 13, 3) := by decide +kernel
theorem dX12_init_20 : decode cX12_init 20 = .ok (.aload_n 0, 1) := by decide +kernel
theorem dX12_init_21 : decode cX12_init 21 = .ok (.sipush 656, 3) := by decide +kernel
theorem dX12_init_24 : decode cX12_init 24 = .ok (.newarray .int, 2) := by decide +kernel
theorem dX12_init_26 : decode cX12_init 26 = .ok (.putfield 17, 3) := by decide +kernel
theorem dX12_init_29 : decode cX12_init 29 = .ok (.aload_n 0, 1) := by decide +kernel
theorem dX12_init_30 : decode cX12_init 30 = .ok (.sipush 2624, 3) := by decide +kernel
theorem dX12_init_33 : decode cX12_init 33 = .ok (.newarray .int, 2) := by decide +kernel
theorem dX12_init_35 : decode cX12_init 35 = .ok (.putfield 20, 3) := by decide +kernel
theorem dX12_init_38 : decode cX12_init 38 = .ok (.aload_n 0, 1) := by decide +kernel
theorem dX12_init_39 : decode cX12_init 39 = .ok (.sipush 2624, 3) := by decide +kernel
theorem dX12_init_42 : decode cX12_init 42 = .ok (.newarray .int, 2) := by decide +kernel
theorem dX12_init_44 : decode cX12_init 44 = .ok (.putfield 23, 3) := by decide +kernel
theorem dX12_init_47 : decode cX12_init 47 = .ok (.aload_n 0, 1) := by decide +kernel
theorem dX12_init_48 : decode cX12_init 48 = .ok (.sipush 656, 3) := by decide +kernel
theorem dX12_init_51 : decode cX12_init 51 = .ok (.newarray .boolean, 2) := by decide +kernel
theorem dX12_init_53 : decode cX12_init 53 = .ok (.putfield 26, 3) := by decide +kernel
theorem dX12_init_56 : decode cX12_init 56 = .ok (.aload_n 0, 1) := by decide +kernel
theorem dX12_init_57 : decode cX12_init 57 = .ok (.sipush 656, 3) := by decide +kernel
theorem dX12_init_60 : decode cX12_init 60 = .ok (.newarray .boolean, 2) := by decide +kernel
theorem dX12_init_62 : decode cX12_init 62 = .ok (.putfield 30, 3) := by decide +kernel
theorem dX12_init_65 : decode cX12_init 65 = .ok (.aload_n 0, 1) := by decide +kernel
theorem dX12_init_66 : decode cX12_init 66 = .ok (.sipush 656, 3) := by decide +kernel
theorem dX12_init_69 : decode cX12_init 69 = .ok (.newarray .boolean, 2) := by decide +kernel
theorem dX12_init_71 : decode cX12_init 71 = .ok (.putfield 33, 3) := by decide +kernel
theorem dX12_init_74 : decode cX12_init 74 = .ok (.aload_n 0, 1) := by decide +kernel
theorem dX12_init_75 : decode cX12_init 75 = .ok (.sipush 656, 3) := by decide +kernel
theorem dX12_init_78 : decode cX12_init 78 = .ok (.newarray .boolean, 2) := by decide +kernel
theorem dX12_init_80 : decode cX12_init 80 = .ok (.putfield 36, 3) := by decide +kernel
theorem dX12_init_83 : decode cX12_init 83 = .ok (.aload_n 0, 1) := by decide +kernel
theorem dX12_init_84 : decode cX12_init 84 = .ok (.sipush 656, 3) := by decide +kernel
theorem dX12_init_87 : decode cX12_init 87 = .ok (.newarray .int, 2) := by decide +kernel
theorem dX12_init_89 : decode cX12_init 89 = .ok (.putfield 39, 3) := by decide +kernel
theorem dX12_init_92 : decode cX12_init 92 = .ok (.aload_n 0, 1) := by decide +kernel
theorem dX12_init_93 : decode cX12_init 93 = .ok (.bipush 16, 2) := by decide +kernel
theorem dX12_init_95 : decode cX12_init 95 = .ok (.newarray .int, 2) := by decide +kernel
theorem dX12_init_97 : decode cX12_init 97 = .ok (.putfield 42, 3) := by decide +kernel
theorem dX12_init_100 : decode cX12_init 100 = .ok (.aload_n 0, 1) := by decide +kernel
theorem dX12_init_101 : decode cX12_init 101 = .ok (.bipush 64, 2) := by decide +kernel
theorem dX12_init_103 : decode cX12_init 103 = .ok (.newarray .int, 2) := by decide +kernel
theorem dX12_init_105 : decode cX12_init 105 = .ok (.putfield 45, 3) := by decide +kernel
theorem dX12_init_108 : decode cX12_init 108 = .ok (.aload_n 0, 1) := by decide +kernel
theorem dX12_init_109 : decode cX12_init 109 = .ok (.iconst 4, 1) := by decide +kernel
theorem dX12_init_110 : decode cX12_init 110 = .ok (.newarray .int, 2) := by decide +kernel
theorem dX12_init_112 : decode cX12_init 112 = .ok (.putfield 48, 3) := by decide +kernel
theorem dX12_init_115 : decode cX12_init 115 = .ok (.aload_n 0, 1) := by decide +kernel
theorem dX12_init_116 : decode cX12_init 116 = .ok (.iconst 4, 1) := by decide +kernel
theorem dX12_init_117 : decode cX12_init 117 = .ok (.newarray .int, 2) := by decide +kernel
theorem dX12_init_119 : decode cX12_init 119 = .ok (.putfield 51, 3) := by decide +kernel
theorem dX12_init_122 : decode cX12_init 122 = .ok (.aload_n 0, 1) := by decide +kernel
theorem dX12_init_123 : decode cX12_init 123 = .ok (.bipush 16, 2) := by decide +kernel
theorem dX12_init_125 : decode cX12_init 125 = .ok (.newarray .int, 2) := by decide +kernel
theorem dX12_init_127 : decode cX12_init 127 = .ok (.putfield 54, 3) := by decide +kernel
theorem dX12_init_130 : decode cX12_init 130 = .ok (.aload_n 0, 1) := by decide +kernel
theorem dX12_init_131 : decode cX12_init 131 = .ok (.bipush 16, 2) := by decide +kernel
theorem dX12_init_133 : decode cX12_init 133 = .ok (.newarray .int, 2) := by decide +kernel
theorem dX12_init_135 : decode cX12_init 135 = .ok (.putfield 57, 3) := by decide +kernel
theorem dX12_init_138 : decode cX12_init 138 = .ok (.aload_n 0, 1) := by decide +kernel
theorem dX12_init_139 : decode cX12_init 139 = .ok (.iconst 2, 1) := by decide +kernel
theorem dX12_init_140 : decode cX12_init 140 = .ok (.newarray .int, 2) := by decide +kernel
theorem dX12_init_142 : decode cX12_init 142 = .ok (.putfield 60, 3) := by decide +kernel
theorem dX12_init_145 : decode cX12_init 145 = .ok (.aload_n 0, 1) := by decide +kernel
theorem dX12_init_146 : decode cX12_init 146 = .ok (.iconst 2, 1) := by decide +kernel
theorem dX12_init_147 : decode cX12_init 147 = .ok (.newarray .int, 2) := by decide +kernel
theorem dX12_init_149 : decode cX12_init 149 = .ok (.putfield 63, 3) := by decide +kernel
theorem dX12_init_152 : decode cX12_init 152 = .ok (.aload_n 0, 1) := by decide +kernel
theorem dX12_init_153 : decode cX12_init 153 = .ok (.bipush 100, 2) := by decide +kernel
theorem dX12_init_155 : decode cX12_init 155 = .ok (.newarray .int, 2) := by decide +kernel
theorem dX12_init_157 : decode cX12_init 157 = .ok (.putfield 66, 3) := by decide +kernel
theorem dX12_init_160 : decode cX12_init 160 = .ok (.aload_n 0, 1) := by decide +kernel
theorem dX12_init_161 : decode cX12_init 161 = .ok (.iconst 4, 1) := by decide +kernel
theorem dX12_init_162 : decode cX12_init 162 = .ok (.newarray .int, 2) := by decide +kernel
theorem dX12_init_164 : decode cX12_init 164 = .ok (.putfield 69, 3) := by decide +kernel
theorem dX12_init_167 : decode cX12_init 167 = .ok (.aload_n 0, 1) := by decide +kernel
theorem dX12_init_168 : decode cX12_init 168 = .ok (.bipush 64, 2) := by decide +kernel
theorem dX12_init_170 : decode cX12_init 170 = .ok (.newarray .int, 2) := by decide +kernel
theorem dX12_init_172 : decode cX12_init 172 = .ok (.putfield 72, 3) := by decide +kernel
theorem dX12_init_175 : decode cX12_init 175 = .ok (.aload_n 0, 1) := by decide +kernel
theorem dX12_init_176 : decode cX12_init 176 = .ok (.bipush 64, 2) := by decide +kernel
theorem dX12_init_178 : decode cX12_init 178 = .ok (.newarray .long, 2) := by decide +kernel
theorem dX12_init_180 : decode cX12_init 180 = .ok (.putfield 75, 3) := by decide +kernel
theorem dX12_init_183 : decode cX12_init 183 = .ok (.aload_n 0, 1) := by decide +kernel
theorem dX12_init_184 : decode cX12_init 184 = .ok (.bipush 16, 2) := by decide +kernel
theorem dX12_init_186 : decode cX12_init 186 = .ok (.newarray .int, 2) := by decide +kernel
theorem dX12_init_188 : decode cX12_init 188 = .ok (.putfield 78, 3) := by decide +kernel
theorem dX12_init_191 : decode cX12_init 191 = .ok (.aload_n 0, 1) := by decide +kernel
theorem dX12_init_192 : decode cX12_init 192 = .ok (.ldc 81, 2) := by decide +kernel
theorem dX12_init_194 : decode cX12_init 194 = .ok (.newarray .int, 2) := by decide +kernel
theorem dX12_init_196 : decode cX12_init 196 = .ok (.putfield 82, 3) := by decide +kernel
theorem dX12_init_199 : decode cX12_init 199 = .ok (.aload_n 0, 1) := by decide +kernel
theorem dX12_init_200 : decode cX12_init 200 = .ok (.ldc 81, 2) := by decide +kernel
theorem dX12_init_202 : decode cX12_init 202 = .ok (.newarray .int, 2) := by decide +kernel
theorem dX12_init_204 : decode cX12_init 204 = .ok (.putfield 85, 3) := by decide +kernel
theorem dX12_init_207 : decode cX12_init 207 = .ok (.aload_n 0, 1) := by decide +kernel
theorem dX12_init_208 : decode cX12_init 208 = .ok (.invokevirtual 88, 3) := by decide +kernel
theorem dX12_init_211 : decode cX12_init 211 = .ok (.return_, 1) := by decide +kernel
theorem dX12_in_0 : decode cX12_in 0 = .ok (.lload_n 0, 1) := by decide +kernel
theorem dX12_in_1 : decode cX12_in 1 = .ok (.lload_n 2, 1) := by decide +kernel
theorem dX12_in_2 : decode cX12_in 2 = .ok (.lcmp, 1) := by decide +kernel
theorem dX12_in_3 : decode cX12_in 3 = .ok (.ifCond .lt 14, 3) := by decide +kernel
theorem dX12_in_6 : decode cX12_in 6 = .ok (.lload_n 0, 1) := by decide +kernel
theorem dX12_in_7 : decode cX12_in 7 = .ok (.lload 4, 2) := by decide +kernel
theorem dX12_in_9 : decode cX12_in 9 = .ok (.lcmp, 1) := by decide +kernel
theorem dX12_in_10 : decode cX12_in 10 = .ok (.ifCond .gt 7, 3) := by decide +kernel
theorem dX12_in_13 : decode cX12_in 13 = .ok (.iconst 1, 1) := by decide +kernel
theorem dX12_in_14 : decode cX12_in 14 = .ok (.goto 4, 3) := by decide +kernel
theorem dX12_in_17 : decode cX12_in 17 = .ok (.iconst 0, 1) := by decide +kernel
theorem dX12_in_18 : decode cX12_in 18 = .ok (.ireturn, 1) := by decide +kernel
theorem dX12_has_0 : decode cX12_has 0 = .ok (.iload_n 0, 1) := by decide +kernel
theorem dX12_has_1 : decode cX12_has 1 = .ok (.iload_n 1, 1) := by decide +kernel
theorem dX12_has_2 : decode cX12_has 2 = .ok (.ishr, 1) := by decide +kernel
theorem dX12_has_3 : decode cX12_has 3 = .ok (.iconst 1, 1) := by decide +kernel
theorem dX12_has_4 : decode cX12_has 4 = .ok (.iand, 1) := by decide +kernel
theorem dX12_has_5 : decode cX12_has 5 = .ok (.iconst 1, 1) := by decide +kernel
theorem dX12_has_6 : decode cX12_has 6 = .ok (.if_icmp .ne 7, 3) := by decide +kernel
theorem dX12_has_9 : decode cX12_has 9 = .ok (.iconst 1, 1) := by decide +kernel
theorem dX12_has_10 : decode cX12_has 10 = .ok (.goto 4, 3) := by decide +kernel
theorem dX12_has_13 : decode cX12_has 13 = .ok (.iconst 0, 1) := by decide +kernel
theorem dX12_has_14 : decode cX12_has 14 = .ok (.ireturn, 1) := by decide +kernel
theorem dX12_begins_0 : decode cX12_begins 0 = .ok (.aload_n 0, 1) := by decide +kernel
theorem dX12_begins_1 : decode cX12_begins 1 = .ok (.iconst 3, 1) := by decide +kernel
theorem dX12_begins_2 : decode cX12_begins 2 = .ok (.putfield 91, 3) := by decide +kernel
theorem dX12_begins_5 : decode cX12_begins 5 = .ok (.aload_n 0, 1) := by decide +kernel
theorem dX12_begins_6 : decode cX12_begins 6 = .ok (.iconst 4, 1) := by decide +kernel
theorem dX12_begins_7 : decode cX12_begins 7 = .ok (.putfield 95, 3) := by decide +kernel
theorem dX12_begins_10 : decode cX12_begins 10 = .ok (.aload_n 0, 1) := by decide +kernel
theorem dX12_begins_11 : decode cX12_begins 11 = .ok (.iconst 4, 1) := by decide +kernel
theorem dX12_begins_12 : decode cX12_begins 12 = .ok (.putfield 98, 3) := by decide +kernel
theorem dX12_begins_15 : decode cX12_begins 15 = .ok (.aload_n 0, 1) := by decide +kernel
theorem dX12_begins_16 : decode cX12_begins 16 = .ok (.iconst 0, 1) := by decide +kernel
theorem dX12_begins_17 : decode cX12_begins 17 = .ok (.putfield 101, 3) := by decide +kernel
theorem dX12_begins_20 : decode cX12_begins 20 = .ok (.aload_n 0, 1) := by decide +kernel
theorem dX12_begins_21 : decode cX12_begins 21 = .ok (.invokevirtual 104, 3) := by decide +kernel
theorem dX12_begins_24 : decode cX12_begins 24 = .ok (.return_, 1) := by decide +kernel
theorem dX12_forgets_0 : decode cX12_forgets 0 = .ok (.aload_n 0, 1) := by decide +kernel
theorem dX12_forgets_1 : decode cX12_forgets 1 = .ok (.iconst 0, 1) := by decide +kernel
theorem dX12_forgets_2 : decode cX12_forgets 2 = .ok (.putfield 107, 3) := by decide +kernel
theorem dX12_forgets_5 : decode cX12_forgets 5 = .ok (.aload_n 0, 1) := by decide +kernel
theorem dX12_forgets_6 : decode cX12_forgets 6 = .ok (.iconst 0, 1) := by decide +kernel
theorem dX12_forgets_7 : decode cX12_forgets 7 = .ok (.putfield 110, 3) := by decide +kernel
theorem dX12_forgets_10 : decode cX12_forgets 10 = .ok (.iconst 0, 1) := by decide +kernel
theorem dX12_forgets_11 : decode cX12_forgets 11 = .ok (.istore_n 1, 1) := by decide +kernel
theorem dX12_forgets_12 : decode cX12_forgets 12 = .ok (.iload_n 1, 1) := by decide +kernel
theorem dX12_forgets_13 : decode cX12_forgets 13 = .ok (.sipush 656, 3) := by decide +kernel
theorem dX12_forgets_16 : decode cX12_forgets 16 = .ok (.if_icmp .ge 44, 3) := by decide +kernel
theorem dX12_forgets_19 : decode cX12_forgets 19 = .ok (.aload_n 0, 1) := by decide +kernel
theorem dX12_forgets_20 : decode cX12_forgets 20 = .ok (.getfield 26, 3) := by decide +kernel
theorem dX12_forgets_23 : decode cX12_forgets 23 = .ok (.iload_n 1, 1) := by decide +kernel
theorem dX12_forgets_24 : decode cX12_forgets 24 = .ok (.iconst 0, 1) := by decide +kernel
theorem dX12_forgets_25 : decode cX12_forgets 25 = .ok (.bastore, 1) := by decide +kernel
theorem dX12_forgets_26 : decode cX12_forgets 26 = .ok (.aload_n 0, 1) := by decide +kernel
theorem dX12_forgets_27 : decode cX12_forgets 27 = .ok (.getfield 30, 3) := by decide +kernel
theorem dX12_forgets_30 : decode cX12_forgets 30 = .ok (.iload_n 1, 1) := by decide +kernel
theorem dX12_forgets_31 : decode cX12_forgets 31 = .ok (.iconst 0, 1) := by decide +kernel
theorem dX12_forgets_32 : decode cX12_forgets 32 = .ok (.bastore, 1) := by decide +kernel
theorem dX12_forgets_33 : decode cX12_forgets 33 = .ok (.aload_n 0, 1) := by decide +kernel
theorem dX12_forgets_34 : decode cX12_forgets 34 = .ok (.getfield 33, 3) := by decide +kernel
theorem dX12_forgets_37 : decode cX12_forgets 37 = .ok (.iload_n 1, 1) := by decide +kernel
theorem dX12_forgets_38 : decode cX12_forgets 38 = .ok (.iconst 0, 1) := by decide +kernel
theorem dX12_forgets_39 : decode cX12_forgets 39 = .ok (.bastore, 1) := by decide +kernel
theorem dX12_forgets_40 : decode cX12_forgets 40 = .ok (.aload_n 0, 1) := by decide +kernel
theorem dX12_forgets_41 : decode cX12_forgets 41 = .ok (.getfield 36, 3) := by decide +kernel
theorem dX12_forgets_44 : decode cX12_forgets 44 = .ok (.iload_n 1, 1) := by decide +kernel
theorem dX12_forgets_45 : decode cX12_forgets 45 = .ok (.iconst 0, 1) := by decide +kernel
theorem dX12_forgets_46 : decode cX12_forgets 46 = .ok (.bastore, 1) := by decide +kernel
theorem dX12_forgets_47 : decode cX12_forgets 47 = .ok (.aload_n 0, 1) := by decide +kernel
theorem dX12_forgets_48 : decode cX12_forgets 48 = .ok (.getfield 39, 3) := by decide +kernel
theorem dX12_forgets_51 : decode cX12_forgets 51 = .ok (.iload_n 1, 1) := by decide +kernel
theorem dX12_forgets_52 : decode cX12_forgets 52 = .ok (.iconst 0, 1) := by decide +kernel
theorem dX12_forgets_53 : decode cX12_forgets 53 = .ok (.iastore, 1) := by decide +kernel
theorem dX12_forgets_54 : decode cX12_forgets 54 = .ok (.iinc 1 1, 3) := by decide +kernel
theorem dX12_forgets_57 : decode cX12_forgets 57 = .ok (.goto (-45), 3) := by decide +kernel
theorem dX12_forgets_60 : decode cX12_forgets 60 = .ok (.iconst 0, 1) := by decide +kernel
theorem dX12_forgets_61 : decode cX12_forgets 61 = .ok (.istore_n 1, 1) := by decide +kernel
theorem dX12_forgets_62 : decode cX12_forgets 62 = .ok (.iload_n 1, 1) := by decide +kernel
theorem dX12_forgets_63 : decode cX12_forgets 63 = .ok (.bipush 64, 2) := by decide +kernel
theorem dX12_forgets_65 : decode cX12_forgets 65 = .ok (.if_icmp .ge 16, 3) := by decide +kernel
theorem dX12_forgets_68 : decode cX12_forgets 68 = .ok (.aload_n 0, 1) := by decide +kernel
theorem dX12_forgets_69 : decode cX12_forgets 69 = .ok (.getfield 45, 3) := by decide +kernel
theorem dX12_forgets_72 : decode cX12_forgets 72 = .ok (.iload_n 1, 1) := by decide +kernel
theorem dX12_forgets_73 : decode cX12_forgets 73 = .ok (.iconst 0, 1) := by decide +kernel
theorem dX12_forgets_74 : decode cX12_forgets 74 = .ok (.iastore, 1) := by decide +kernel
theorem dX12_forgets_75 : decode cX12_forgets 75 = .ok (.iinc 1 1, 3) := by decide +kernel
theorem dX12_forgets_78 : decode cX12_forgets 78 = .ok (.goto (-16), 3) := by decide +kernel
theorem dX12_forgets_81 : decode cX12_forgets 81 = .ok (.iconst 0, 1) := by decide +kernel
theorem dX12_forgets_82 : decode cX12_forgets 82 = .ok (.istore_n 1, 1) := by decide +kernel
theorem dX12_forgets_83 : decode cX12_forgets 83 = .ok (.iload_n 1, 1) := by decide +kernel
theorem dX12_forgets_84 : decode cX12_forgets 84 = .ok (.bipush 16, 2) := by decide +kernel
theorem dX12_forgets_86 : decode cX12_forgets 86 = .ok (.if_icmp .ge 16, 3) := by decide +kernel
theorem dX12_forgets_89 : decode cX12_forgets 89 = .ok (.aload_n 0, 1) := by decide +kernel
theorem dX12_forgets_90 : decode cX12_forgets 90 = .ok (.getfield 42, 3) := by decide +kernel
theorem dX12_forgets_93 : decode cX12_forgets 93 = .ok (.iload_n 1, 1) := by decide +kernel
theorem dX12_forgets_94 : decode cX12_forgets 94 = .ok (.iconst 0, 1) := by decide +kernel
theorem dX12_forgets_95 : decode cX12_forgets 95 = .ok (.iastore, 1) := by decide +kernel
theorem dX12_forgets_96 : decode cX12_forgets 96 = .ok (.iinc 1 1, 3) := by decide +kernel
theorem dX12_forgets_99 : decode cX12_forgets 99 = .ok (.goto (-16), 3) := by decide +kernel
theorem dX12_forgets_102 : decode cX12_forgets 102 = .ok (.iconst 0, 1) := by decide +kernel
theorem dX12_forgets_103 : decode cX12_forgets 103 = .ok (.istore_n 1, 1) := by decide +kernel
theorem dX12_forgets_104 : decode cX12_forgets 104 = .ok (.iload_n 1, 1) := by decide +kernel
theorem dX12_forgets_105 : decode cX12_forgets 105 = .ok (.iconst 4, 1) := by decide +kernel
theorem dX12_forgets_106 : decode cX12_forgets 106 = .ok (.if_icmp .ge 24, 3) := by decide +kernel
theorem dX12_forgets_109 : decode cX12_forgets 109 = .ok (.aload_n 0, 1) := by decide +kernel
theorem dX12_forgets_110 : decode cX12_forgets 110 = .ok (.getfield 48, 3) := by decide +kernel
theorem dX12_forgets_113 : decode cX12_forgets 113 = .ok (.iload_n 1, 1) := by decide +kernel
theorem dX12_forgets_114 : decode cX12_forgets 114 = .ok (.iconst 0, 1) := by decide +kernel
theorem dX12_forgets_115 : decode cX12_forgets 115 = .ok (.iastore, 1) := by decide +kernel
theorem dX12_forgets_116 : decode cX12_forgets 116 = .ok (.aload_n 0, 1) := by decide +kernel
theorem dX12_forgets_117 : decode cX12_forgets 117 = .ok (.getfield 51, 3) := by decide +kernel
theorem dX12_forgets_120 : decode cX12_forgets 120 = .ok (.iload_n 1, 1) := by decide +kernel
theorem dX12_forgets_121 : decode cX12_forgets 121 = .ok (.bipush (-9), 2) := by decide +kernel
theorem dX12_forgets_123 : decode cX12_forgets 123 = .ok (.iastore, 1) := by decide +kernel
theorem dX12_forgets_124 : decode cX12_forgets 124 = .ok (.iinc 1 1, 3) := by decide +kernel
theorem dX12_forgets_127 : decode cX12_forgets 127 = .ok (.goto (-23), 3) := by decide +kernel
theorem dX12_forgets_130 : decode cX12_forgets 130 = .ok (.return_, 1) := by decide +kernel
theorem dX12_at_0 : decode cX12_at 0 = .ok (.sipush 164, 3) := by decide +kernel
theorem dX12_at_3 : decode cX12_at 3 = .ok (.iload_n 0, 1) := by decide +kernel
theorem dX12_at_4 : decode cX12_at 4 = .ok (.imul, 1) := by decide +kernel
theorem dX12_at_5 : decode cX12_at 5 = .ok (.bipush 41, 2) := by decide +kernel
theorem dX12_at_7 : decode cX12_at 7 = .ok (.iload_n 1, 1) := by decide +kernel
theorem dX12_at_8 : decode cX12_at 8 = .ok (.imul, 1) := by decide +kernel
theorem dX12_at_9 : decode cX12_at 9 = .ok (.iadd, 1) := by decide +kernel
theorem dX12_at_10 : decode cX12_at 10 = .ok (.iload_n 2, 1) := by decide +kernel
theorem dX12_at_11 : decode cX12_at 11 = .ok (.iadd, 1) := by decide +kernel
theorem dX12_at_12 : decode cX12_at 12 = .ok (.ireturn, 1) := by decide +kernel
theorem dX12_rowAt_0 : decode cX12_rowAt 0 = .ok (.bipush 16, 2) := by decide +kernel
theorem dX12_rowAt_2 : decode cX12_rowAt 2 = .ok (.iload_n 0, 1) := by decide +kernel
theorem dX12_rowAt_3 : decode cX12_rowAt 3 = .ok (.imul, 1) := by decide +kernel
theorem dX12_rowAt_4 : decode cX12_rowAt 4 = .ok (.iconst 4, 1) := by decide +kernel
theorem dX12_rowAt_5 : decode cX12_rowAt 5 = .ok (.iload_n 1, 1) := by decide +kernel
theorem dX12_rowAt_6 : decode cX12_rowAt 6 = .ok (.imul, 1) := by decide +kernel
theorem dX12_rowAt_7 : decode cX12_rowAt 7 = .ok (.iadd, 1) := by decide +kernel
theorem dX12_rowAt_8 : decode cX12_rowAt 8 = .ok (.ireturn, 1) := by decide +kernel
theorem dX12_isSite_0 : decode cX12_isSite 0 = .ok (.iload_n 1, 1) := by decide +kernel
theorem dX12_isSite_1 : decode cX12_isSite 1 = .ok (.i2l, 1) := by decide +kernel
theorem dX12_isSite_2 : decode cX12_isSite 2 = .ok (.lconst 0, 1) := by decide +kernel
theorem dX12_isSite_3 : decode cX12_isSite 3 = .ok (.aload_n 0, 1) := by decide +kernel
theorem dX12_isSite_4 : decode cX12_isSite 4 = .ok (.getfield 91, 3) := by decide +kernel
theorem dX12_isSite_7 : decode cX12_isSite 7 = .ok (.iconst 1, 1) := by decide +kernel
theorem dX12_isSite_8 : decode cX12_isSite 8 = .ok (.isub, 1) := by decide +kernel
theorem dX12_isSite_9 : decode cX12_isSite 9 = .ok (.i2l, 1) := by decide +kernel
theorem dX12_isSite_10 : decode cX12_isSite 10 = .ok (.invokestatic 113, 3) := by decide +kernel
theorem dX12_isSite_13 : decode cX12_isSite 13 = .ok (.ireturn, 1) := by decide +kernel
theorem dX12_isKey_0 : decode cX12_isKey 0 = .ok (.iload_n 1, 1) := by decide +kernel
theorem dX12_isKey_1 : decode cX12_isKey 1 = .ok (.i2l, 1) := by decide +kernel
theorem dX12_isKey_2 : decode cX12_isKey 2 = .ok (.lconst 0, 1) := by decide +kernel
theorem dX12_isKey_3 : decode cX12_isKey 3 = .ok (.aload_n 0, 1) := by decide +kernel
theorem dX12_isKey_4 : decode cX12_isKey 4 = .ok (.getfield 101, 3) := by decide +kernel
theorem dX12_isKey_7 : decode cX12_isKey 7 = .ok (.iconst 1, 1) := by decide +kernel
theorem dX12_isKey_8 : decode cX12_isKey 8 = .ok (.isub, 1) := by decide +kernel
theorem dX12_isKey_9 : decode cX12_isKey 9 = .ok (.i2l, 1) := by decide +kernel
theorem dX12_isKey_10 : decode cX12_isKey 10 = .ok (.invokestatic 113, 3) := by decide +kernel
theorem dX12_isKey_13 : decode cX12_isKey 13 = .ok (.ireturn, 1) := by decide +kernel
theorem dX12_isClient_0 : decode cX12_isClient 0 = .ok (.iload_n 0, 1) := by decide +kernel
theorem dX12_isClient_1 : decode cX12_isClient 1 = .ok (.i2l, 1) := by decide +kernel
theorem dX12_isClient_2 : decode cX12_isClient 2 = .ok (.lconst 0, 1) := by decide +kernel
theorem dX12_isClient_3 : decode cX12_isClient 3 = .ok (.ldc2_w 117, 3) := by decide +kernel
theorem dX12_isClient_6 : decode cX12_isClient 6 = .ok (.invokestatic 113, 3) := by decide +kernel
theorem dX12_isClient_9 : decode cX12_isClient 9 = .ok (.ireturn, 1) := by decide +kernel
theorem dX12_isWrite_0 : decode cX12_isWrite 0 = .ok (.aload_n 0, 1) := by decide +kernel
theorem dX12_isWrite_1 : decode cX12_isWrite 1 = .ok (.iload_n 1, 1) := by decide +kernel
theorem dX12_isWrite_2 : decode cX12_isWrite 2 = .ok (.invokevirtual 119, 3) := by decide +kernel
theorem dX12_isWrite_5 : decode cX12_isWrite 5 = .ok (.ifCond .eq 35, 3) := by decide +kernel
theorem dX12_isWrite_8 : decode cX12_isWrite 8 = .ok (.aload_n 0, 1) := by decide +kernel
theorem dX12_isWrite_9 : decode cX12_isWrite 9 = .ok (.iload_n 2, 1) := by decide +kernel
theorem dX12_isWrite_10 : decode cX12_isWrite 10 = .ok (.invokevirtual 123, 3) := by decide +kernel
theorem dX12_isWrite_13 : decode cX12_isWrite 13 = .ok (.ifCond .eq 27, 3) := by decide +kernel
theorem dX12_isWrite_16 : decode cX12_isWrite 16 = .ok (.iload_n 3, 1) := by decide +kernel
theorem dX12_isWrite_17 : decode cX12_isWrite 17 = .ok (.i2l, 1) := by decide +kernel
theorem dX12_isWrite_18 : decode cX12_isWrite 18 = .ok (.lconst 1, 1) := by decide +kernel
theorem dX12_isWrite_19 : decode cX12_isWrite 19 = .ok (.aload_n 0, 1) := by decide +kernel
theorem dX12_isWrite_20 : decode cX12_isWrite 20 = .ok (.getfield 42, 3) := by decide +kernel
theorem dX12_isWrite_23 : decode cX12_isWrite 23 = .ok (.iconst 4, 1) := by decide +kernel
theorem dX12_isWrite_24 : decode cX12_isWrite 24 = .ok (.iload_n 1, 1) := by decide +kernel
theorem dX12_isWrite_25 : decode cX12_isWrite 25 = .ok (.imul, 1) := by decide +kernel
theorem dX12_isWrite_26 : decode cX12_isWrite 26 = .ok (.iload_n 2, 1) := by decide +kernel
theorem dX12_isWrite_27 : decode cX12_isWrite 27 = .ok (.iadd, 1) := by decide +kernel
theorem dX12_isWrite_28 : decode cX12_isWrite 28 = .ok (.iaload, 1) := by decide +kernel
theorem dX12_isWrite_29 : decode cX12_isWrite 29 = .ok (.i2l, 1) := by decide +kernel
theorem dX12_isWrite_30 : decode cX12_isWrite 30 = .ok (.invokestatic 113, 3) := by decide +kernel
theorem dX12_isWrite_33 : decode cX12_isWrite 33 = .ok (.ifCond .eq 7, 3) := by decide +kernel
theorem dX12_isWrite_36 : decode cX12_isWrite 36 = .ok (.iconst 1, 1) := by decide +kernel
theorem dX12_isWrite_37 : decode cX12_isWrite 37 = .ok (.goto 4, 3) := by decide +kernel
theorem dX12_isWrite_40 : decode cX12_isWrite 40 = .ok (.iconst 0, 1) := by decide +kernel
theorem dX12_isWrite_41 : decode cX12_isWrite 41 = .ok (.ireturn, 1) := by decide +kernel
theorem dX12_type_0 : decode cX12_type 0 = .ok (.iload_n 1, 1) := by decide +kernel
theorem dX12_type_1 : decode cX12_type 1 = .ok (.i2l, 1) := by decide +kernel
theorem dX12_type_2 : decode cX12_type 2 = .ok (.lconst 0, 1) := by decide +kernel
theorem dX12_type_3 : decode cX12_type 3 = .ok (.ldc2_w 126, 3) := by decide +kernel
theorem dX12_type_6 : decode cX12_type 6 = .ok (.invokestatic 113, 3) := by decide +kernel
theorem dX12_type_9 : decode cX12_type 9 = .ok (.ifCond .ne 5, 3) := by decide +kernel
theorem dX12_type_12 : decode cX12_type 12 = .ok (.iconst (-1), 1) := by decide +kernel
theorem dX12_type_13 : decode cX12_type 13 = .ok (.ireturn, 1) := by decide +kernel
theorem dX12_type_14 : decode cX12_type 14 = .ok (.aload_n 0, 1) := by decide +kernel
theorem dX12_type_15 : decode cX12_type 15 = .ok (.getfield 128, 3) := by decide +kernel
theorem dX12_type_18 : decode cX12_type 18 = .ok (.bipush 100, 2) := by decide +kernel
theorem dX12_type_20 : decode cX12_type 20 = .ok (.if_icmp .ne 6, 3) := by decide +kernel
theorem dX12_type_23 : decode cX12_type 23 = .ok (.bipush (-3), 2) := by decide +kernel
theorem dX12_type_25 : decode cX12_type 25 = .ok (.ireturn, 1) := by decide +kernel
theorem dX12_type_26 : decode cX12_type 26 = .ok (.aload_n 0, 1) := by decide +kernel
theorem dX12_type_27 : decode cX12_type 27 = .ok (.getfield 66, 3) := by decide +kernel
theorem dX12_type_30 : decode cX12_type 30 = .ok (.aload_n 0, 1) := by decide +kernel
theorem dX12_type_31 : decode cX12_type 31 = .ok (.getfield 128, 3) := by decide +kernel
theorem dX12_type_34 : decode cX12_type 34 = .ok (.iload_n 1, 1) := by decide +kernel
theorem dX12_type_35 : decode cX12_type 35 = .ok (.iastore, 1) := by decide +kernel
theorem dX12_type_36 : decode cX12_type 36 = .ok (.aload_n 0, 1) := by decide +kernel
theorem dX12_type_37 : decode cX12_type 37 = .ok (.dup, 1) := by decide +kernel
theorem dX12_type_38 : decode cX12_type 38 = .ok (.getfield 128, 3) := by decide +kernel
theorem dX12_type_41 : decode cX12_type 41 = .ok (.iconst 1, 1) := by decide +kernel
theorem dX12_type_42 : decode cX12_type 42 = .ok (.iadd, 1) := by decide +kernel
theorem dX12_type_43 : decode cX12_type 43 = .ok (.putfield 128, 3) := by decide +kernel
theorem dX12_type_46 : decode cX12_type 46 = .ok (.aload_n 0, 1) := by decide +kernel
theorem dX12_type_47 : decode cX12_type 47 = .ok (.getfield 128, 3) := by decide +kernel
theorem dX12_type_50 : decode cX12_type 50 = .ok (.ireturn, 1) := by decide +kernel
theorem dX12_clear_0 : decode cX12_clear 0 = .ok (.aload_n 0, 1) := by decide +kernel
theorem dX12_clear_1 : decode cX12_clear 1 = .ok (.getfield 128, 3) := by decide +kernel
theorem dX12_clear_4 : decode cX12_clear 4 = .ok (.istore_n 1, 1) := by decide +kernel
theorem dX12_clear_5 : decode cX12_clear 5 = .ok (.aload_n 0, 1) := by decide +kernel
theorem dX12_clear_6 : decode cX12_clear 6 = .ok (.iconst 0, 1) := by decide +kernel
theorem dX12_clear_7 : decode cX12_clear 7 = .ok (.putfield 128, 3) := by decide +kernel
theorem dX12_clear_10 : decode cX12_clear 10 = .ok (.iload_n 1, 1) := by decide +kernel
theorem dX12_clear_11 : decode cX12_clear 11 = .ok (.ireturn, 1) := by decide +kernel
theorem dX12_isBetween_0 : decode cX12_isBetween 0 = .ok (.aload_n 0, 1) := by decide +kernel
theorem dX12_isBetween_1 : decode cX12_isBetween 1 = .ok (.getfield 131, 3) := by decide +kernel
theorem dX12_isBetween_4 : decode cX12_isBetween 4 = .ok (.aload_n 0, 1) := by decide +kernel
theorem dX12_isBetween_5 : decode cX12_isBetween 5 = .ok (.getfield 128, 3) := by decide +kernel
theorem dX12_isBetween_8 : decode cX12_isBetween 8 = .ok (.if_icmp .ge 27, 3) := by decide +kernel
theorem dX12_isBetween_11 : decode cX12_isBetween 11 = .ok (.aload_n 0, 1) := by decide +kernel
theorem dX12_isBetween_12 : decode cX12_isBetween 12 = .ok (.getfield 66, 3) := by decide +kernel
theorem dX12_isBetween_15 : decode cX12_isBetween 15 = .ok (.aload_n 0, 1) := by decide +kernel
theorem dX12_isBetween_16 : decode cX12_isBetween 16 = .ok (.getfield 131, 3) := by decide +kernel
theorem dX12_isBetween_19 : decode cX12_isBetween 19 = .ok (.iaload, 1) := by decide +kernel
theorem dX12_isBetween_20 : decode cX12_isBetween 20 = .ok (.i2l, 1) := by decide +kernel
theorem dX12_isBetween_21 : decode cX12_isBetween 21 = .ok (.iload_n 1, 1) := by decide +kernel
theorem dX12_isBetween_22 : decode cX12_isBetween 22 = .ok (.i2l, 1) := by decide +kernel
theorem dX12_isBetween_23 : decode cX12_isBetween 23 = .ok (.iload_n 2, 1) := by decide +kernel
theorem dX12_isBetween_24 : decode cX12_isBetween 24 = .ok (.i2l, 1) := by decide +kernel
theorem dX12_isBetween_25 : decode cX12_isBetween 25 = .ok (.invokestatic 113, 3) := by decide +kernel
theorem dX12_isBetween_28 : decode cX12_isBetween 28 = .ok (.ifCond .eq 7, 3) := by decide +kernel
theorem dX12_isBetween_31 : decode cX12_isBetween 31 = .ok (.iconst 1, 1) := by decide +kernel
theorem dX12_isBetween_32 : decode cX12_isBetween 32 = .ok (.goto 4, 3) := by decide +kernel
theorem dX12_isBetween_35 : decode cX12_isBetween 35 = .ok (.iconst 0, 1) := by decide +kernel
theorem dX12_isBetween_36 : decode cX12_isBetween 36 = .ok (.ireturn, 1) := by decide +kernel
theorem dX12_next_0 : decode cX12_next 0 = .ok (.aload_n 0, 1) := by decide +kernel
theorem dX12_next_1 : decode cX12_next 1 = .ok (.bipush 32, 2) := by decide +kernel
theorem dX12_next_3 : decode cX12_next 3 = .ok (.bipush 32, 2) := by decide +kernel
theorem dX12_next_5 : decode cX12_next 5 = .ok (.invokevirtual 134, 3) := by decide +kernel
theorem dX12_next_8 : decode cX12_next 8 = .ok (.ifCond .eq 16, 3) := by decide +kernel
theorem dX12_next_11 : decode cX12_next 11 = .ok (.aload_n 0, 1) := by decide +kernel
theorem dX12_next_12 : decode cX12_next 12 = .ok (.dup, 1) := by decide +kernel
theorem dX12_next_13 : decode cX12_next 13 = .ok (.getfield 131, 3) := by decide +kernel
theorem dX12_next_16 : decode cX12_next 16 = .ok (.iconst 1, 1) := by decide +kernel
theorem dX12_next_17 : decode cX12_next 17 = .ok (.iadd, 1) := by decide +kernel
theorem dX12_next_18 : decode cX12_next 18 = .ok (.putfield 131, 3) := by decide +kernel
theorem dX12_next_21 : decode cX12_next 21 = .ok (.goto (-21), 3) := by decide +kernel
theorem dX12_next_24 : decode cX12_next 24 = .ok (.aload_n 0, 1) := by decide +kernel
theorem dX12_next_25 : decode cX12_next 25 = .ok (.aload_n 0, 1) := by decide +kernel
theorem dX12_next_26 : decode cX12_next 26 = .ok (.getfield 131, 3) := by decide +kernel
theorem dX12_next_29 : decode cX12_next 29 = .ok (.putfield 138, 3) := by decide +kernel
theorem dX12_next_32 : decode cX12_next 32 = .ok (.aload_n 0, 1) := by decide +kernel
theorem dX12_next_33 : decode cX12_next 33 = .ok (.lconst 0, 1) := by decide +kernel
theorem dX12_next_34 : decode cX12_next 34 = .ok (.putfield 141, 3) := by decide +kernel
theorem dX12_next_37 : decode cX12_next 37 = .ok (.aload_n 0, 1) := by decide +kernel
theorem dX12_next_38 : decode cX12_next 38 = .ok (.getfield 131, 3) := by decide +kernel
theorem dX12_next_41 : decode cX12_next 41 = .ok (.aload_n 0, 1) := by decide +kernel
theorem dX12_next_42 : decode cX12_next 42 = .ok (.getfield 128, 3) := by decide +kernel
theorem dX12_next_45 : decode cX12_next 45 = .ok (.if_icmp .ne 11, 3) := by decide +kernel
theorem dX12_next_48 : decode cX12_next 48 = .ok (.aload_n 0, 1) := by decide +kernel
theorem dX12_next_49 : decode cX12_next 49 = .ok (.iconst 0, 1) := by decide +kernel
theorem dX12_next_50 : decode cX12_next 50 = .ok (.putfield 145, 3) := by decide +kernel
theorem dX12_next_53 : decode cX12_next 53 = .ok (.goto 197, 3) := by decide +kernel
theorem dX12_next_56 : decode cX12_next 56 = .ok (.aload_n 0, 1) := by decide +kernel
theorem dX12_next_57 : decode cX12_next 57 = .ok (.bipush 97, 2) := by decide +kernel
theorem dX12_next_59 : decode cX12_next 59 = .ok (.bipush 122, 2) := by decide +kernel
theorem dX12_next_61 : decode cX12_next 61 = .ok (.invokevirtual 134, 3) := by decide +kernel
theorem dX12_next_64 : decode cX12_next 64 = .ok (.ifCond .eq 81, 3) := by decide +kernel
theorem dX12_next_67 : decode cX12_next 67 = .ok (.aload_n 0, 1) := by decide +kernel
theorem dX12_next_68 : decode cX12_next 68 = .ok (.iconst 1, 1) := by decide +kernel
theorem dX12_next_69 : decode cX12_next 69 = .ok (.putfield 145, 3) := by decide +kernel
theorem dX12_next_72 : decode cX12_next 72 = .ok (.aload_n 0, 1) := by decide +kernel
theorem dX12_next_73 : decode cX12_next 73 = .ok (.bipush 97, 2) := by decide +kernel
theorem dX12_next_75 : decode cX12_next 75 = .ok (.bipush 122, 2) := by decide +kernel
theorem dX12_next_77 : decode cX12_next 77 = .ok (.invokevirtual 134, 3) := by decide +kernel
theorem dX12_next_80 : decode cX12_next 80 = .ok (.ifCond .eq 170, 3) := by decide +kernel
theorem dX12_next_83 : decode cX12_next 83 = .ok (.aload_n 0, 1) := by decide +kernel
theorem dX12_next_84 : decode cX12_next 84 = .ok (.aload_n 0, 1) := by decide +kernel
theorem dX12_next_85 : decode cX12_next 85 = .ok (.getfield 131, 3) := by decide +kernel
theorem dX12_next_88 : decode cX12_next 88 = .ok (.aload_n 0, 1) := by decide +kernel
theorem dX12_next_89 : decode cX12_next 89 = .ok (.getfield 138, 3) := by decide +kernel
theorem dX12_next_92 : decode cX12_next 92 = .ok (.isub, 1) := by decide +kernel
theorem dX12_next_93 : decode cX12_next 93 = .ok (.bipush 6, 2) := by decide +kernel
theorem dX12_next_95 : decode cX12_next 95 = .ok (.if_icmp .ge 31, 3) := by decide +kernel
theorem dX12_next_98 : decode cX12_next 98 = .ok (.ldc2_w 148, 3) := by decide +kernel
theorem dX12_next_101 : decode cX12_next 101 = .ok (.aload_n 0, 1) := by decide +kernel
theorem dX12_next_102 : decode cX12_next 102 = .ok (.getfield 141, 3) := by decide +kernel
theorem dX12_next_105 : decode cX12_next 105 = .ok (.lmul, 1) := by decide +kernel
theorem dX12_next_106 : decode cX12_next 106 = .ok (.aload_n 0, 1) := by decide +kernel
theorem dX12_next_107 : decode cX12_next 107 = .ok (.getfield 66, 3) := by decide +kernel
theorem dX12_next_110 : decode cX12_next 110 = .ok (.aload_n 0, 1) := by decide +kernel
theorem dX12_next_111 : decode cX12_next 111 = .ok (.getfield 131, 3) := by decide +kernel
theorem dX12_next_114 : decode cX12_next 114 = .ok (.iaload, 1) := by decide +kernel
theorem dX12_next_115 : decode cX12_next 115 = .ok (.i2l, 1) := by decide +kernel
theorem dX12_next_116 : decode cX12_next 116 = .ok (.ladd, 1) := by decide +kernel
theorem dX12_next_117 : decode cX12_next 117 = .ok (.ldc2_w 150, 3) := by decide +kernel
theorem dX12_next_120 : decode cX12_next 120 = .ok (.lsub, 1) := by decide +kernel
theorem dX12_next_121 : decode cX12_next 121 = .ok (.lconst 1, 1) := by decide +kernel
theorem dX12_next_122 : decode cX12_next 122 = .ok (.ladd, 1) := by decide +kernel
theorem dX12_next_123 : decode cX12_next 123 = .ok (.goto 6, 3) := by decide +kernel
theorem dX12_next_126 : decode cX12_next 126 = .ok (.ldc2_w 152, 3) := by decide +kernel
theorem dX12_next_129 : decode cX12_next 129 = .ok (.putfield 141, 3) := by decide +kernel
theorem dX12_next_132 : decode cX12_next 132 = .ok (.aload_n 0, 1) := by decide +kernel
theorem dX12_next_133 : decode cX12_next 133 = .ok (.dup, 1) := by decide +kernel
theorem dX12_next_134 : decode cX12_next 134 = .ok (.getfield 131, 3) := by decide +kernel
theorem dX12_next_137 : decode cX12_next 137 = .ok (.iconst 1, 1) := by decide +kernel
theorem dX12_next_138 : decode cX12_next 138 = .ok (.iadd, 1) := by decide +kernel
theorem dX12_next_139 : decode cX12_next 139 = .ok (.putfield 131, 3) := by decide +kernel
theorem dX12_next_142 : decode cX12_next 142 = .ok (.goto (-70), 3) := by decide +kernel
theorem dX12_next_145 : decode cX12_next 145 = .ok (.aload_n 0, 1) := by decide +kernel
theorem dX12_next_146 : decode cX12_next 146 = .ok (.bipush 48, 2) := by decide +kernel
theorem dX12_next_148 : decode cX12_next 148 = .ok (.bipush 57, 2) := by decide +kernel
theorem dX12_next_150 : decode cX12_next 150 = .ok (.invokevirtual 134, 3) := by decide +kernel
theorem dX12_next_153 : decode cX12_next 153 = .ok (.ifCond .eq 64, 3) := by decide +kernel
theorem dX12_next_156 : decode cX12_next 156 = .ok (.aload_n 0, 1) := by decide +kernel
theorem dX12_next_157 : decode cX12_next 157 = .ok (.aload_n 0, 1) := by decide +kernel
theorem dX12_next_158 : decode cX12_next 158 = .ok (.getfield 66, 3) := by decide +kernel
theorem dX12_next_161 : decode cX12_next 161 = .ok (.aload_n 0, 1) := by decide +kernel
theorem dX12_next_162 : decode cX12_next 162 = .ok (.getfield 131, 3) := by decide +kernel
theorem dX12_next_165 : decode cX12_next 165 = .ok (.iaload, 1) := by decide +kernel
theorem dX12_next_166 : decode cX12_next 166 = .ok (.bipush 48, 2) := by decide +kernel
theorem dX12_next_168 : decode cX12_next 168 = .ok (.isub, 1) := by decide +kernel
theorem dX12_next_169 : decode cX12_next 169 = .ok (.i2l, 1) := by decide +kernel
theorem dX12_next_170 : decode cX12_next 170 = .ok (.putfield 141, 3) := by decide +kernel
theorem dX12_next_173 : decode cX12_next 173 = .ok (.aload_n 0, 1) := by decide +kernel
theorem dX12_next_174 : decode cX12_next 174 = .ok (.dup, 1) := by decide +kernel
theorem dX12_next_175 : decode cX12_next 175 = .ok (.getfield 131, 3) := by decide +kernel
theorem dX12_next_178 : decode cX12_next 178 = .ok (.iconst 1, 1) := by decide +kernel
theorem dX12_next_179 : decode cX12_next 179 = .ok (.iadd, 1) := by decide +kernel
theorem dX12_next_180 : decode cX12_next 180 = .ok (.putfield 131, 3) := by decide +kernel
theorem dX12_next_183 : decode cX12_next 183 = .ok (.aload_n 0, 1) := by decide +kernel
theorem dX12_next_184 : decode cX12_next 184 = .ok (.iconst 2, 1) := by decide +kernel
theorem dX12_next_185 : decode cX12_next 185 = .ok (.putfield 145, 3) := by decide +kernel
theorem dX12_next_188 : decode cX12_next 188 = .ok (.aload_n 0, 1) := by decide +kernel
theorem dX12_next_189 : decode cX12_next 189 = .ok (.bipush 48, 2) := by decide +kernel
theorem dX12_next_191 : decode cX12_next 191 = .ok (.bipush 57, 2) := by decide +kernel
theorem dX12_next_193 : decode cX12_next 193 = .ok (.invokevirtual 134, 3) := by decide +kernel
theorem dX12_next_196 : decode cX12_next 196 = .ok (.ifCond .eq 54, 3) := by decide +kernel
theorem dX12_next_199 : decode cX12_next 199 = .ok (.aload_n 0, 1) := by decide +kernel
theorem dX12_next_200 : decode cX12_next 200 = .ok (.iconst 4, 1) := by decide +kernel
theorem dX12_next_201 : decode cX12_next 201 = .ok (.putfield 145, 3) := by decide +kernel
theorem dX12_next_204 : decode cX12_next 204 = .ok (.aload_n 0, 1) := by decide +kernel
theorem dX12_next_205 : decode cX12_next 205 = .ok (.dup, 1) := by decide +kernel
theorem dX12_next_206 : decode cX12_next 206 = .ok (.getfield 131, 3) := by decide +kernel
theorem dX12_next_209 : decode cX12_next 209 = .ok (.iconst 1, 1) := by decide +kernel
theorem dX12_next_210 : decode cX12_next 210 = .ok (.iadd, 1) := by decide +kernel
theorem dX12_next_211 : decode cX12_next 211 = .ok (.putfield 131, 3) := by decide +kernel
theorem dX12_next_214 : decode cX12_next 214 = .ok (.goto (-26), 3) := by decide +kernel
theorem dX12_next_217 : decode cX12_next 217 = .ok (.aload_n 0, 1) := by decide +kernel
theorem dX12_next_218 : decode cX12_next 218 = .ok (.aload_n 0, 1) := by decide +kernel
theorem dX12_next_219 : decode cX12_next 219 = .ok (.getfield 66, 3) := by decide +kernel
theorem dX12_next_222 : decode cX12_next 222 = .ok (.aload_n 0, 1) := by decide +kernel
theorem dX12_next_223 : decode cX12_next 223 = .ok (.getfield 131, 3) := by decide +kernel
theorem dX12_next_226 : decode cX12_next 226 = .ok (.iaload, 1) := by decide +kernel
theorem dX12_next_227 : decode cX12_next 227 = .ok (.bipush 59, 2) := by decide +kernel
theorem dX12_next_229 : decode cX12_next 229 = .ok (.if_icmp .ne 7, 3) := by decide +kernel
theorem dX12_next_232 : decode cX12_next 232 = .ok (.iconst 3, 1) := by decide +kernel
theorem dX12_next_233 : decode cX12_next 233 = .ok (.goto 4, 3) := by decide +kernel
theorem dX12_next_236 : decode cX12_next 236 = .ok (.iconst 4, 1) := by decide +kernel
theorem dX12_next_237 : decode cX12_next 237 = .ok (.putfield 145, 3) := by decide +kernel
theorem dX12_next_240 : decode cX12_next 240 = .ok (.aload_n 0, 1) := by decide +kernel
theorem dX12_next_241 : decode cX12_next 241 = .ok (.dup, 1) := by decide +kernel
theorem dX12_next_242 : decode cX12_next 242 = .ok (.getfield 131, 3) := by decide +kernel
theorem dX12_next_245 : decode cX12_next 245 = .ok (.iconst 1, 1) := by decide +kernel
theorem dX12_next_246 : decode cX12_next 246 = .ok (.iadd, 1) := by decide +kernel
theorem dX12_next_247 : decode cX12_next 247 = .ok (.putfield 131, 3) := by decide +kernel
theorem dX12_next_250 : decode cX12_next 250 = .ok (.return_, 1) := by decide +kernel
theorem dX12_word_0 : decode cX12_word 0 = .ok (.iload_n 0, 1) := by decide +kernel
theorem dX12_word_1 : decode cX12_word 1 = .ok (.i2l, 1) := by decide +kernel
theorem dX12_word_2 : decode cX12_word 2 = .ok (.ldc2_w 148, 3) := by decide +kernel
theorem dX12_word_5 : decode cX12_word 5 = .ok (.lmul, 1) := by decide +kernel
theorem dX12_word_6 : decode cX12_word 6 = .ok (.iload_n 1, 1) := by decide +kernel
theorem dX12_word_7 : decode cX12_word 7 = .ok (.i2l, 1) := by decide +kernel
theorem dX12_word_8 : decode cX12_word 8 = .ok (.ladd, 1) := by decide +kernel
theorem dX12_word_9 : decode cX12_word 9 = .ok (.ldc2_w 148, 3) := by decide +kernel
theorem dX12_word_12 : decode cX12_word 12 = .ok (.lmul, 1) := by decide +kernel
theorem dX12_word_13 : decode cX12_word 13 = .ok (.iload_n 2, 1) := by decide +kernel
theorem dX12_word_14 : decode cX12_word 14 = .ok (.i2l, 1) := by decide +kernel
theorem dX12_word_15 : decode cX12_word 15 = .ok (.ladd, 1) := by decide +kernel
theorem dX12_word_16 : decode cX12_word 16 = .ok (.ldc2_w 148, 3) := by decide +kernel
theorem dX12_word_19 : decode cX12_word 19 = .ok (.lmul, 1) := by decide +kernel
theorem dX12_word_20 : decode cX12_word 20 = .ok (.iload_n 3, 1) := by decide +kernel
theorem dX12_word_21 : decode cX12_word 21 = .ok (.i2l, 1) := by decide +kernel
theorem dX12_word_22 : decode cX12_word 22 = .ok (.ladd, 1) := by decide +kernel
theorem dX12_word_23 : decode cX12_word 23 = .ok (.ldc2_w 148, 3) := by decide +kernel
theorem dX12_word_26 : decode cX12_word 26 = .ok (.lmul, 1) := by decide +kernel
theorem dX12_word_27 : decode cX12_word 27 = .ok (.iload 4, 2) := by decide +kernel
theorem dX12_word_29 : decode cX12_word 29 = .ok (.i2l, 1) := by decide +kernel
theorem dX12_word_30 : decode cX12_word 30 = .ok (.ladd, 1) := by decide +kernel
theorem dX12_word_31 : decode cX12_word 31 = .ok (.lreturn, 1) := by decide +kernel
theorem dX12_number_0 : decode cX12_number 0 = .ok (.aload_n 0, 1) := by decide +kernel
theorem dX12_number_1 : decode cX12_number 1 = .ok (.invokevirtual 154, 3) := by decide +kernel
theorem dX12_number_4 : decode cX12_number 4 = .ok (.aload_n 0, 1) := by decide +kernel
theorem dX12_number_5 : decode cX12_number 5 = .ok (.getfield 145, 3) := by decide +kernel
theorem dX12_number_8 : decode cX12_number 8 = .ok (.iconst 2, 1) := by decide +kernel
theorem dX12_number_9 : decode cX12_number 9 = .ok (.if_icmp .ne 21, 3) := by decide +kernel
theorem dX12_number_12 : decode cX12_number 12 = .ok (.aload_n 0, 1) := by decide +kernel
theorem dX12_number_13 : decode cX12_number 13 = .ok (.getfield 141, 3) := by decide +kernel
theorem dX12_number_16 : decode cX12_number 16 = .ok (.iload_n 1, 1) := by decide +kernel
theorem dX12_number_17 : decode cX12_number 17 = .ok (.i2l, 1) := by decide +kernel
theorem dX12_number_18 : decode cX12_number 18 = .ok (.iload_n 2, 1) := by decide +kernel
theorem dX12_number_19 : decode cX12_number 19 = .ok (.i2l, 1) := by decide +kernel
theorem dX12_number_20 : decode cX12_number 20 = .ok (.invokestatic 113, 3) := by decide +kernel
theorem dX12_number_23 : decode cX12_number 23 = .ok (.ifCond .eq 7, 3) := by decide +kernel
theorem dX12_number_26 : decode cX12_number 26 = .ok (.iconst 1, 1) := by decide +kernel
theorem dX12_number_27 : decode cX12_number 27 = .ok (.goto 4, 3) := by decide +kernel
theorem dX12_number_30 : decode cX12_number 30 = .ok (.iconst 0, 1) := by decide +kernel
theorem dX12_number_31 : decode cX12_number 31 = .ok (.ireturn, 1) := by decide +kernel
theorem dX12_stops_0 : decode cX12_stops 0 = .ok (.aload_n 0, 1) := by decide +kernel
theorem dX12_stops_1 : decode cX12_stops 1 = .ok (.invokevirtual 154, 3) := by decide +kernel
theorem dX12_stops_4 : decode cX12_stops 4 = .ok (.aload_n 0, 1) := by decide +kernel
theorem dX12_stops_5 : decode cX12_stops 5 = .ok (.getfield 145, 3) := by decide +kernel
theorem dX12_stops_8 : decode cX12_stops 8 = .ok (.iconst 3, 1) := by decide +kernel
theorem dX12_stops_9 : decode cX12_stops 9 = .ok (.if_icmp .ne 7, 3) := by decide +kernel
theorem dX12_stops_12 : decode cX12_stops 12 = .ok (.iconst 1, 1) := by decide +kernel
theorem dX12_stops_13 : decode cX12_stops 13 = .ok (.goto 4, 3) := by decide +kernel
theorem dX12_stops_16 : decode cX12_stops 16 = .ok (.iconst 0, 1) := by decide +kernel
theorem dX12_stops_17 : decode cX12_stops 17 = .ok (.ireturn, 1) := by decide +kernel
theorem dX12_readsItem_0 : decode cX12_readsItem 0 = .ok (.aload_n 0, 1) := by decide +kernel
theorem dX12_readsItem_1 : decode cX12_readsItem 1 = .ok (.invokevirtual 154, 3) := by decide +kernel
theorem dX12_readsItem_4 : decode cX12_readsItem 4 = .ok (.aload_n 0, 1) := by decide +kernel
theorem dX12_readsItem_5 : decode cX12_readsItem 5 = .ok (.getfield 145, 3) := by decide +kernel
theorem dX12_readsItem_8 : decode cX12_readsItem 8 = .ok (.iconst 1, 1) := by decide +kernel
theorem dX12_readsItem_9 : decode cX12_readsItem 9 = .ok (.if_icmp .eq 5, 3) := by decide +kernel
theorem dX12_readsItem_12 : decode cX12_readsItem 12 = .ok (.iconst 0, 1) := by decide +kernel
theorem dX12_readsItem_13 : decode cX12_readsItem 13 = .ok (.ireturn, 1) := by decide +kernel
theorem dX12_readsItem_14 : decode cX12_readsItem 14 = .ok (.aload_n 0, 1) := by decide +kernel
theorem dX12_readsItem_15 : decode cX12_readsItem 15 = .ok (.getfield 141, 3) := by decide +kernel
theorem dX12_readsItem_18 : decode cX12_readsItem 18 = .ok (.lstore_n 1, 1) := by decide +kernel
theorem dX12_readsItem_19 : decode cX12_readsItem 19 = .ok (.lload_n 1, 1) := by decide +kernel
theorem dX12_readsItem_20 : decode cX12_readsItem 20 = .ok (.bipush 19, 2) := by decide +kernel
theorem dX12_readsItem_22 : decode cX12_readsItem 22 = .ok (.bipush 9, 2) := by decide +kernel
theorem dX12_readsItem_24 : decode cX12_readsItem 24 = .ok (.bipush 20, 2) := by decide +kernel
theorem dX12_readsItem_26 : decode cX12_readsItem 26 = .ok (.iconst 5, 1) := by decide +kernel
theorem dX12_readsItem_27 : decode cX12_readsItem 27 = .ok (.bipush 19, 2) := by decide +kernel
theorem dX12_readsItem_29 : decode cX12_readsItem 29 = .ok (.invokestatic 157, 3) := by decide +kernel
theorem dX12_readsItem_32 : decode cX12_readsItem 32 = .ok (.lcmp, 1) := by decide +kernel
theorem dX12_readsItem_33 : decode cX12_readsItem 33 = .ok (.ifCond .ne 35, 3) := by decide +kernel
theorem dX12_readsItem_36 : decode cX12_readsItem 36 = .ok (.aload_n 0, 1) := by decide +kernel
theorem dX12_readsItem_37 : decode cX12_readsItem 37 = .ok (.getfield 161, 3) := by decide +kernel
theorem dX12_readsItem_40 : decode cX12_readsItem 40 = .ok (.ifCond .ne 12, 3) := by decide +kernel
theorem dX12_readsItem_43 : decode cX12_readsItem 43 = .ok (.aload_n 0, 1) := by decide +kernel
theorem dX12_readsItem_44 : decode cX12_readsItem 44 = .ok (.iconst 2, 1) := by decide +kernel
theorem dX12_readsItem_45 : decode cX12_readsItem 45 = .ok (.iconst 4, 1) := by decide +kernel
theorem dX12_readsItem_46 : decode cX12_readsItem 46 = .ok (.invokevirtual 164, 3) := by decide +kernel
theorem dX12_readsItem_49 : decode cX12_readsItem 49 = .ok (.ifCond .ne 5, 3) := by decide +kernel
theorem dX12_readsItem_52 : decode cX12_readsItem 52 = .ok (.iconst 0, 1) := by decide +kernel
theorem dX12_readsItem_53 : decode cX12_readsItem 53 = .ok (.ireturn, 1) := by decide +kernel
theorem dX12_readsItem_54 : decode cX12_readsItem 54 = .ok (.aload_n 0, 1) := by decide +kernel
theorem dX12_readsItem_55 : decode cX12_readsItem 55 = .ok (.aload_n 0, 1) := by decide +kernel
theorem dX12_readsItem_56 : decode cX12_readsItem 56 = .ok (.getfield 141, 3) := by decide +kernel
theorem dX12_readsItem_59 : decode cX12_readsItem 59 = .ok (.l2i, 1) := by decide +kernel
theorem dX12_readsItem_60 : decode cX12_readsItem 60 = .ok (.putfield 161, 3) := by decide +kernel
theorem dX12_readsItem_63 : decode cX12_readsItem 63 = .ok (.aload_n 0, 1) := by decide +kernel
theorem dX12_readsItem_64 : decode cX12_readsItem 64 = .ok (.invokevirtual 167, 3) := by decide +kernel
theorem dX12_readsItem_67 : decode cX12_readsItem 67 = .ok (.ireturn, 1) := by decide +kernel
theorem dX12_readsItem_68 : decode cX12_readsItem 68 = .ok (.lload_n 1, 1) := by decide +kernel
theorem dX12_readsItem_69 : decode cX12_readsItem 69 = .ok (.iconst 2, 1) := by decide +kernel
theorem dX12_readsItem_70 : decode cX12_readsItem 70 = .ok (.bipush 15, 2) := by decide +kernel
theorem dX12_readsItem_72 : decode cX12_readsItem 72 = .ok (.bipush 21, 2) := by decide +kernel
theorem dX12_readsItem_74 : decode cX12_readsItem 74 = .ok (.bipush 14, 2) := by decide +kernel
theorem dX12_readsItem_76 : decode cX12_readsItem 76 = .ok (.iconst 4, 1) := by decide +kernel
theorem dX12_readsItem_77 : decode cX12_readsItem 77 = .ok (.invokestatic 157, 3) := by decide +kernel
theorem dX12_readsItem_80 : decode cX12_readsItem 80 = .ok (.lcmp, 1) := by decide +kernel
theorem dX12_readsItem_81 : decode cX12_readsItem 81 = .ok (.ifCond .ne 36, 3) := by decide +kernel
theorem dX12_readsItem_84 : decode cX12_readsItem 84 = .ok (.aload_n 0, 1) := by decide +kernel
theorem dX12_readsItem_85 : decode cX12_readsItem 85 = .ok (.getfield 171, 3) := by decide +kernel
theorem dX12_readsItem_88 : decode cX12_readsItem 88 = .ok (.ifCond .ne 13, 3) := by decide +kernel
theorem dX12_readsItem_91 : decode cX12_readsItem 91 = .ok (.aload_n 0, 1) := by decide +kernel
theorem dX12_readsItem_92 : decode cX12_readsItem 92 = .ok (.iconst 1, 1) := by decide +kernel
theorem dX12_readsItem_93 : decode cX12_readsItem 93 = .ok (.bipush 6, 2) := by decide +kernel
theorem dX12_readsItem_95 : decode cX12_readsItem 95 = .ok (.invokevirtual 164, 3) := by decide +kernel
theorem dX12_readsItem_98 : decode cX12_readsItem 98 = .ok (.ifCond .ne 5, 3) := by decide +kernel
theorem dX12_readsItem_101 : decode cX12_readsItem 101 = .ok (.iconst 0, 1) := by decide +kernel
theorem dX12_readsItem_102 : decode cX12_readsItem 102 = .ok (.ireturn, 1) := by decide +kernel
theorem dX12_readsItem_103 : decode cX12_readsItem 103 = .ok (.aload_n 0, 1) := by decide +kernel
theorem dX12_readsItem_104 : decode cX12_readsItem 104 = .ok (.aload_n 0, 1) := by decide +kernel
theorem dX12_readsItem_105 : decode cX12_readsItem 105 = .ok (.getfield 141, 3) := by decide +kernel
theorem dX12_readsItem_108 : decode cX12_readsItem 108 = .ok (.l2i, 1) := by decide +kernel
theorem dX12_readsItem_109 : decode cX12_readsItem 109 = .ok (.putfield 171, 3) := by decide +kernel
theorem dX12_readsItem_112 : decode cX12_readsItem 112 = .ok (.aload_n 0, 1) := by decide +kernel
theorem dX12_readsItem_113 : decode cX12_readsItem 113 = .ok (.invokevirtual 167, 3) := by decide +kernel
theorem dX12_readsItem_116 : decode cX12_readsItem 116 = .ok (.ireturn, 1) := by decide +kernel
theorem dX12_readsItem_117 : decode cX12_readsItem 117 = .ok (.lload_n 1, 1) := by decide +kernel
theorem dX12_readsItem_118 : decode cX12_readsItem 118 = .ok (.bipush 12, 2) := by decide +kernel
theorem dX12_readsItem_120 : decode cX12_readsItem 120 = .ok (.bipush 9, 2) := by decide +kernel
theorem dX12_readsItem_122 : decode cX12_readsItem 122 = .ok (.bipush 13, 2) := by decide +kernel
theorem dX12_readsItem_124 : decode cX12_readsItem 124 = .ok (.bipush 9, 2) := by decide +kernel
theorem dX12_readsItem_126 : decode cX12_readsItem 126 = .ok (.bipush 20, 2) := by decide +kernel
theorem dX12_readsItem_128 : decode cX12_readsItem 128 = .ok (.invokestatic 157, 3) := by decide +kernel
theorem dX12_readsItem_131 : decode cX12_readsItem 131 = .ok (.lcmp, 1) := by decide +kernel
theorem dX12_readsItem_132 : decode cX12_readsItem 132 = .ok (.ifCond .ne 35, 3) := by decide +kernel
theorem dX12_readsItem_135 : decode cX12_readsItem 135 = .ok (.aload_n 0, 1) := by decide +kernel
theorem dX12_readsItem_136 : decode cX12_readsItem 136 = .ok (.getfield 174, 3) := by decide +kernel
theorem dX12_readsItem_139 : decode cX12_readsItem 139 = .ok (.ifCond .ne 12, 3) := by decide +kernel
theorem dX12_readsItem_142 : decode cX12_readsItem 142 = .ok (.aload_n 0, 1) := by decide +kernel
theorem dX12_readsItem_143 : decode cX12_readsItem 143 = .ok (.iconst 1, 1) := by decide +kernel
theorem dX12_readsItem_144 : decode cX12_readsItem 144 = .ok (.iconst 4, 1) := by decide +kernel
theorem dX12_readsItem_145 : decode cX12_readsItem 145 = .ok (.invokevirtual 164, 3) := by decide +kernel
theorem dX12_readsItem_148 : decode cX12_readsItem 148 = .ok (.ifCond .ne 5, 3) := by decide +kernel
theorem dX12_readsItem_151 : decode cX12_readsItem 151 = .ok (.iconst 0, 1) := by decide +kernel
theorem dX12_readsItem_152 : decode cX12_readsItem 152 = .ok (.ireturn, 1) := by decide +kernel
theorem dX12_readsItem_153 : decode cX12_readsItem 153 = .ok (.aload_n 0, 1) := by decide +kernel
theorem dX12_readsItem_154 : decode cX12_readsItem 154 = .ok (.aload_n 0, 1) := by decide +kernel
theorem dX12_readsItem_155 : decode cX12_readsItem 155 = .ok (.getfield 141, 3) := by decide +kernel
theorem dX12_readsItem_158 : decode cX12_readsItem 158 = .ok (.l2i, 1) := by decide +kernel
theorem dX12_readsItem_159 : decode cX12_readsItem 159 = .ok (.putfield 174, 3) := by decide +kernel
theorem dX12_readsItem_162 : decode cX12_readsItem 162 = .ok (.aload_n 0, 1) := by decide +kernel
theorem dX12_readsItem_163 : decode cX12_readsItem 163 = .ok (.invokevirtual 167, 3) := by decide +kernel
theorem dX12_readsItem_166 : decode cX12_readsItem 166 = .ok (.ireturn, 1) := by decide +kernel
theorem dX12_readsItem_167 : decode cX12_readsItem 167 = .ok (.lload_n 1, 1) := by decide +kernel
theorem dX12_readsItem_168 : decode cX12_readsItem 168 = .ok (.bipush 23, 2) := by decide +kernel
theorem dX12_readsItem_170 : decode cX12_readsItem 170 = .ok (.bipush 8, 2) := by decide +kernel
theorem dX12_readsItem_172 : decode cX12_readsItem 172 = .ok (.bipush 15, 2) := by decide +kernel
theorem dX12_readsItem_174 : decode cX12_readsItem 174 = .ok (.bipush 12, 2) := by decide +kernel
theorem dX12_readsItem_176 : decode cX12_readsItem 176 = .ok (.iconst 5, 1) := by decide +kernel
theorem dX12_readsItem_177 : decode cX12_readsItem 177 = .ok (.invokestatic 157, 3) := by decide +kernel
theorem dX12_readsItem_180 : decode cX12_readsItem 180 = .ok (.lcmp, 1) := by decide +kernel
theorem dX12_readsItem_181 : decode cX12_readsItem 181 = .ok (.ifCond .ne 7, 3) := by decide +kernel
theorem dX12_readsItem_184 : decode cX12_readsItem 184 = .ok (.iconst 1, 1) := by decide +kernel
theorem dX12_readsItem_185 : decode cX12_readsItem 185 = .ok (.goto 4, 3) := by decide +kernel
theorem dX12_readsItem_188 : decode cX12_readsItem 188 = .ok (.iconst 0, 1) := by decide +kernel
theorem dX12_readsItem_189 : decode cX12_readsItem 189 = .ok (.istore_n 3, 1) := by decide +kernel
theorem dX12_readsItem_190 : decode cX12_readsItem 190 = .ok (.aload_n 0, 1) := by decide +kernel
theorem dX12_readsItem_191 : decode cX12_readsItem 191 = .ok (.getfield 177, 3) := by decide +kernel
theorem dX12_readsItem_194 : decode cX12_readsItem 194 = .ok (.iconst 4, 1) := by decide +kernel
theorem dX12_readsItem_195 : decode cX12_readsItem 195 = .ok (.if_icmp .eq 23, 3) := by decide +kernel
theorem dX12_readsItem_198 : decode cX12_readsItem 198 = .ok (.iload_n 3, 1) := by decide +kernel
theorem dX12_readsItem_199 : decode cX12_readsItem 199 = .ok (.ifCond .ne 21, 3) := by decide +kernel
theorem dX12_readsItem_202 : decode cX12_readsItem 202 = .ok (.lload_n 1, 1) := by decide +kernel
theorem dX12_readsItem_203 : decode cX12_readsItem 203 = .ok (.iconst 0, 1) := by decide +kernel
theorem dX12_readsItem_204 : decode cX12_readsItem 204 = .ok (.iconst 2, 1) := by decide +kernel
theorem dX12_readsItem_205 : decode cX12_readsItem 205 = .ok (.bipush 9, 2) := by decide +kernel
theorem dX12_readsItem_207 : decode cX12_readsItem 207 = .ok (.bipush 20, 2) := by decide +kernel
theorem dX12_readsItem_209 : decode cX12_readsItem 209 = .ok (.bipush 19, 2) := by decide +kernel
theorem dX12_readsItem_211 : decode cX12_readsItem 211 = .ok (.invokestatic 157, 3) := by decide +kernel
theorem dX12_readsItem_214 : decode cX12_readsItem 214 = .ok (.lcmp, 1) := by decide +kernel
theorem dX12_readsItem_215 : decode cX12_readsItem 215 = .ok (.ifCond .eq 5, 3) := by decide +kernel
theorem dX12_readsItem_218 : decode cX12_readsItem 218 = .ok (.iconst 0, 1) := by decide +kernel
theorem dX12_readsItem_219 : decode cX12_readsItem 219 = .ok (.ireturn, 1) := by decide +kernel
theorem dX12_readsItem_220 : decode cX12_readsItem 220 = .ok (.aload_n 0, 1) := by decide +kernel
theorem dX12_readsItem_221 : decode cX12_readsItem 221 = .ok (.getfield 69, 3) := by decide +kernel
theorem dX12_readsItem_224 : decode cX12_readsItem 224 = .ok (.aload_n 0, 1) := by decide +kernel
theorem dX12_readsItem_225 : decode cX12_readsItem 225 = .ok (.getfield 177, 3) := by decide +kernel
theorem dX12_readsItem_228 : decode cX12_readsItem 228 = .ok (.iload_n 3, 1) := by decide +kernel
theorem dX12_readsItem_229 : decode cX12_readsItem 229 = .ok (.ifCond .eq 7, 3) := by decide +kernel
theorem dX12_readsItem_232 : decode cX12_readsItem 232 = .ok (.iconst 0, 1) := by decide +kernel
theorem dX12_readsItem_233 : decode cX12_readsItem 233 = .ok (.goto 4, 3) := by decide +kernel
theorem dX12_readsItem_236 : decode cX12_readsItem 236 = .ok (.iconst 1, 1) := by decide +kernel
theorem dX12_readsItem_237 : decode cX12_readsItem 237 = .ok (.iastore, 1) := by decide +kernel
theorem dX12_readsItem_238 : decode cX12_readsItem 238 = .ok (.aload_n 0, 1) := by decide +kernel
theorem dX12_readsItem_239 : decode cX12_readsItem 239 = .ok (.dup, 1) := by decide +kernel
theorem dX12_readsItem_240 : decode cX12_readsItem 240 = .ok (.getfield 177, 3) := by decide +kernel
theorem dX12_readsItem_243 : decode cX12_readsItem 243 = .ok (.iconst 1, 1) := by decide +kernel
theorem dX12_readsItem_244 : decode cX12_readsItem 244 = .ok (.iadd, 1) := by decide +kernel
theorem dX12_readsItem_245 : decode cX12_readsItem 245 = .ok (.putfield 177, 3) := by decide +kernel
theorem dX12_readsItem_248 : decode cX12_readsItem 248 = .ok (.aload_n 0, 1) := by decide +kernel
theorem dX12_readsItem_249 : decode cX12_readsItem 249 = .ok (.invokevirtual 167, 3) := by decide +kernel
theorem dX12_readsItem_252 : decode cX12_readsItem 252 = .ok (.ireturn, 1) := by decide +kernel
theorem dX12_tells_0 : decode cX12_tells 0 = .ok (.aload_n 0, 1) := by decide +kernel
theorem dX12_tells_1 : decode cX12_tells 1 = .ok (.iconst 0, 1) := by decide +kernel
theorem dX12_tells_2 : decode cX12_tells 2 = .ok (.putfield 131, 3) := by decide +kernel
theorem dX12_tells_5 : decode cX12_tells 5 = .ok (.aload_n 0, 1) := by decide +kernel
theorem dX12_tells_6 : decode cX12_tells 6 = .ok (.iconst 0, 1) := by decide +kernel
theorem dX12_tells_7 : decode cX12_tells 7 = .ok (.putfield 161, 3) := by decide +kernel
theorem dX12_tells_10 : decode cX12_tells 10 = .ok (.aload_n 0, 1) := by decide +kernel
theorem dX12_tells_11 : decode cX12_tells 11 = .ok (.iconst 0, 1) := by decide +kernel
theorem dX12_tells_12 : decode cX12_tells 12 = .ok (.putfield 171, 3) := by decide +kernel
theorem dX12_tells_15 : decode cX12_tells 15 = .ok (.aload_n 0, 1) := by decide +kernel
theorem dX12_tells_16 : decode cX12_tells 16 = .ok (.iconst 0, 1) := by decide +kernel
theorem dX12_tells_17 : decode cX12_tells 17 = .ok (.putfield 174, 3) := by decide +kernel
theorem dX12_tells_20 : decode cX12_tells 20 = .ok (.aload_n 0, 1) := by decide +kernel
theorem dX12_tells_21 : decode cX12_tells 21 = .ok (.iconst 0, 1) := by decide +kernel
theorem dX12_tells_22 : decode cX12_tells 22 = .ok (.putfield 177, 3) := by decide +kernel
theorem dX12_tells_25 : decode cX12_tells 25 = .ok (.iconst 0, 1) := by decide +kernel
theorem dX12_tells_26 : decode cX12_tells 26 = .ok (.istore_n 1, 1) := by decide +kernel
theorem dX12_tells_27 : decode cX12_tells 27 = .ok (.aload_n 0, 1) := by decide +kernel
theorem dX12_tells_28 : decode cX12_tells 28 = .ok (.bipush 32, 2) := by decide +kernel
theorem dX12_tells_30 : decode cX12_tells 30 = .ok (.bipush 32, 2) := by decide +kernel
theorem dX12_tells_32 : decode cX12_tells 32 = .ok (.invokevirtual 134, 3) := by decide +kernel
theorem dX12_tells_35 : decode cX12_tells 35 = .ok (.ifCond .eq 16, 3) := by decide +kernel
theorem dX12_tells_38 : decode cX12_tells 38 = .ok (.aload_n 0, 1) := by decide +kernel
theorem dX12_tells_39 : decode cX12_tells 39 = .ok (.dup, 1) := by decide +kernel
theorem dX12_tells_40 : decode cX12_tells 40 = .ok (.getfield 131, 3) := by decide +kernel
theorem dX12_tells_43 : decode cX12_tells 43 = .ok (.iconst 1, 1) := by decide +kernel
theorem dX12_tells_44 : decode cX12_tells 44 = .ok (.iadd, 1) := by decide +kernel
theorem dX12_tells_45 : decode cX12_tells 45 = .ok (.putfield 131, 3) := by decide +kernel
theorem dX12_tells_48 : decode cX12_tells 48 = .ok (.goto (-21), 3) := by decide +kernel
theorem dX12_tells_51 : decode cX12_tells 51 = .ok (.aload_n 0, 1) := by decide +kernel
theorem dX12_tells_52 : decode cX12_tells 52 = .ok (.getfield 131, 3) := by decide +kernel
theorem dX12_tells_55 : decode cX12_tells 55 = .ok (.aload_n 0, 1) := by decide +kernel
theorem dX12_tells_56 : decode cX12_tells 56 = .ok (.getfield 128, 3) := by decide +kernel
theorem dX12_tells_59 : decode cX12_tells 59 = .ok (.if_icmp .ge 45, 3) := by decide +kernel
theorem dX12_tells_62 : decode cX12_tells 62 = .ok (.aload_n 0, 1) := by decide +kernel
theorem dX12_tells_63 : decode cX12_tells 63 = .ok (.invokevirtual 180, 3) := by decide +kernel
theorem dX12_tells_66 : decode cX12_tells 66 = .ok (.ifCond .ne 11, 3) := by decide +kernel
theorem dX12_tells_69 : decode cX12_tells 69 = .ok (.bipush (-10), 2) := by decide +kernel
theorem dX12_tells_71 : decode cX12_tells 71 = .ok (.aload_n 0, 1) := by decide +kernel
theorem dX12_tells_72 : decode cX12_tells 72 = .ok (.getfield 138, 3) := by decide +kernel
theorem dX12_tells_75 : decode cX12_tells 75 = .ok (.isub, 1) := by decide +kernel
theorem dX12_tells_76 : decode cX12_tells 76 = .ok (.ireturn, 1) := by decide +kernel
theorem dX12_tells_77 : decode cX12_tells 77 = .ok (.iinc 1 1, 3) := by decide +kernel
theorem dX12_tells_80 : decode cX12_tells 80 = .ok (.aload_n 0, 1) := by decide +kernel
theorem dX12_tells_81 : decode cX12_tells 81 = .ok (.bipush 32, 2) := by decide +kernel
theorem dX12_tells_83 : decode cX12_tells 83 = .ok (.bipush 32, 2) := by decide +kernel
theorem dX12_tells_85 : decode cX12_tells 85 = .ok (.invokevirtual 134, 3) := by decide +kernel
theorem dX12_tells_88 : decode cX12_tells 88 = .ok (.ifCond .eq (-37), 3) := by decide +kernel
theorem dX12_tells_91 : decode cX12_tells 91 = .ok (.aload_n 0, 1) := by decide +kernel
theorem dX12_tells_92 : decode cX12_tells 92 = .ok (.dup, 1) := by decide +kernel
theorem dX12_tells_93 : decode cX12_tells 93 = .ok (.getfield 131, 3) := by decide +kernel
theorem dX12_tells_96 : decode cX12_tells 96 = .ok (.iconst 1, 1) := by decide +kernel
theorem dX12_tells_97 : decode cX12_tells 97 = .ok (.iadd, 1) := by decide +kernel
theorem dX12_tells_98 : decode cX12_tells 98 = .ok (.putfield 131, 3) := by decide +kernel
theorem dX12_tells_101 : decode cX12_tells 101 = .ok (.goto (-21), 3) := by decide +kernel
theorem dX12_tells_104 : decode cX12_tells 104 = .ok (.aload_n 0, 1) := by decide +kernel
theorem dX12_tells_105 : decode cX12_tells 105 = .ok (.iconst 0, 1) := by decide +kernel
theorem dX12_tells_106 : decode cX12_tells 106 = .ok (.putfield 128, 3) := by decide +kernel
theorem dX12_tells_109 : decode cX12_tells 109 = .ok (.aload_n 0, 1) := by decide +kernel
theorem dX12_tells_110 : decode cX12_tells 110 = .ok (.invokevirtual 104, 3) := by decide +kernel
theorem dX12_tells_113 : decode cX12_tells 113 = .ok (.aload_n 0, 1) := by decide +kernel
theorem dX12_tells_114 : decode cX12_tells 114 = .ok (.aload_n 0, 1) := by decide +kernel
theorem dX12_tells_115 : decode cX12_tells 115 = .ok (.getfield 161, 3) := by decide +kernel
theorem dX12_tells_118 : decode cX12_tells 118 = .ok (.ifCond .ne 7, 3) := by decide +kernel
theorem dX12_tells_121 : decode cX12_tells 121 = .ok (.iconst 3, 1) := by decide +kernel
theorem dX12_tells_122 : decode cX12_tells 122 = .ok (.goto 7, 3) := by decide +kernel
theorem dX12_tells_125 : decode cX12_tells 125 = .ok (.aload_n 0, 1) := by decide +kernel
theorem dX12_tells_126 : decode cX12_tells 126 = .ok (.getfield 161, 3) := by decide +kernel
theorem dX12_tells_129 : decode cX12_tells 129 = .ok (.putfield 91, 3) := by decide +kernel
theorem dX12_tells_132 : decode cX12_tells 132 = .ok (.aload_n 0, 1) := by decide +kernel
theorem dX12_tells_133 : decode cX12_tells 133 = .ok (.aload_n 0, 1) := by decide +kernel
theorem dX12_tells_134 : decode cX12_tells 134 = .ok (.getfield 171, 3) := by decide +kernel
theorem dX12_tells_137 : decode cX12_tells 137 = .ok (.ifCond .ne 7, 3) := by decide +kernel
theorem dX12_tells_140 : decode cX12_tells 140 = .ok (.iconst 4, 1) := by decide +kernel
theorem dX12_tells_141 : decode cX12_tells 141 = .ok (.goto 7, 3) := by decide +kernel
theorem dX12_tells_144 : decode cX12_tells 144 = .ok (.aload_n 0, 1) := by decide +kernel
theorem dX12_tells_145 : decode cX12_tells 145 = .ok (.getfield 171, 3) := by decide +kernel
theorem dX12_tells_148 : decode cX12_tells 148 = .ok (.putfield 95, 3) := by decide +kernel
theorem dX12_tells_151 : decode cX12_tells 151 = .ok (.aload_n 0, 1) := by decide +kernel
theorem dX12_tells_152 : decode cX12_tells 152 = .ok (.aload_n 0, 1) := by decide +kernel
theorem dX12_tells_153 : decode cX12_tells 153 = .ok (.getfield 174, 3) := by decide +kernel
theorem dX12_tells_156 : decode cX12_tells 156 = .ok (.ifCond .ne 7, 3) := by decide +kernel
theorem dX12_tells_159 : decode cX12_tells 159 = .ok (.iconst 4, 1) := by decide +kernel
theorem dX12_tells_160 : decode cX12_tells 160 = .ok (.goto 7, 3) := by decide +kernel
theorem dX12_tells_163 : decode cX12_tells 163 = .ok (.aload_n 0, 1) := by decide +kernel
theorem dX12_tells_164 : decode cX12_tells 164 = .ok (.getfield 174, 3) := by decide +kernel
theorem dX12_tells_167 : decode cX12_tells 167 = .ok (.putfield 98, 3) := by decide +kernel
theorem dX12_tells_170 : decode cX12_tells 170 = .ok (.aload_n 0, 1) := by decide +kernel
theorem dX12_tells_171 : decode cX12_tells 171 = .ok (.aload_n 0, 1) := by decide +kernel
theorem dX12_tells_172 : decode cX12_tells 172 = .ok (.getfield 177, 3) := by decide +kernel
theorem dX12_tells_175 : decode cX12_tells 175 = .ok (.putfield 101, 3) := by decide +kernel
theorem dX12_tells_178 : decode cX12_tells 178 = .ok (.iconst 0, 1) := by decide +kernel
theorem dX12_tells_179 : decode cX12_tells 179 = .ok (.istore_n 2, 1) := by decide +kernel
theorem dX12_tells_180 : decode cX12_tells 180 = .ok (.iload_n 2, 1) := by decide +kernel
theorem dX12_tells_181 : decode cX12_tells 181 = .ok (.aload_n 0, 1) := by decide +kernel
theorem dX12_tells_182 : decode cX12_tells 182 = .ok (.getfield 101, 3) := by decide +kernel
theorem dX12_tells_185 : decode cX12_tells 185 = .ok (.if_icmp .ge 21, 3) := by decide +kernel
theorem dX12_tells_188 : decode cX12_tells 188 = .ok (.aload_n 0, 1) := by decide +kernel
theorem dX12_tells_189 : decode cX12_tells 189 = .ok (.getfield 7, 3) := by decide +kernel
theorem dX12_tells_192 : decode cX12_tells 192 = .ok (.iload_n 2, 1) := by decide +kernel
theorem dX12_tells_193 : decode cX12_tells 193 = .ok (.aload_n 0, 1) := by decide +kernel
theorem dX12_tells_194 : decode cX12_tells 194 = .ok (.getfield 69, 3) := by decide +kernel
theorem dX12_tells_197 : decode cX12_tells 197 = .ok (.iload_n 2, 1) := by decide +kernel
theorem dX12_tells_198 : decode cX12_tells 198 = .ok (.iaload, 1) := by decide +kernel
theorem dX12_tells_199 : decode cX12_tells 199 = .ok (.iastore, 1) := by decide +kernel
theorem dX12_tells_200 : decode cX12_tells 200 = .ok (.iinc 2 1, 3) := by decide +kernel
theorem dX12_tells_203 : decode cX12_tells 203 = .ok (.goto (-23), 3) := by decide +kernel
theorem dX12_tells_206 : decode cX12_tells 206 = .ok (.iload_n 1, 1) := by decide +kernel
theorem dX12_tells_207 : decode cX12_tells 207 = .ok (.ireturn, 1) := by decide +kernel
theorem dX12_siblings_0 : decode cX12_siblings 0 = .ok (.iconst 0, 1) := by decide +kernel
theorem dX12_siblings_1 : decode cX12_siblings 1 = .ok (.istore_n 3, 1) := by decide +kernel
theorem dX12_siblings_2 : decode cX12_siblings 2 = .ok (.sipush 164, 3) := by decide +kernel
theorem dX12_siblings_5 : decode cX12_siblings 5 = .ok (.iload_n 2, 1) := by decide +kernel
theorem dX12_siblings_6 : decode cX12_siblings 6 = .ok (.imul, 1) := by decide +kernel
theorem dX12_siblings_7 : decode cX12_siblings 7 = .ok (.istore 4, 2) := by decide +kernel
theorem dX12_siblings_9 : decode cX12_siblings 9 = .ok (.iload 4, 2) := by decide +kernel
theorem dX12_siblings_11 : decode cX12_siblings 11 = .ok (.sipush 164, 3) := by decide +kernel
theorem dX12_siblings_14 : decode cX12_siblings 14 = .ok (.iload_n 2, 1) := by decide +kernel
theorem dX12_siblings_15 : decode cX12_siblings 15 = .ok (.imul, 1) := by decide +kernel
theorem dX12_siblings_16 : decode cX12_siblings 16 = .ok (.sipush 164, 3) := by decide +kernel
theorem dX12_siblings_19 : decode cX12_siblings 19 = .ok (.iadd, 1) := by decide +kernel
theorem dX12_siblings_20 : decode cX12_siblings 20 = .ok (.if_icmp .ge 31, 3) := by decide +kernel
theorem dX12_siblings_23 : decode cX12_siblings 23 = .ok (.iload_n 3, 1) := by decide +kernel
theorem dX12_siblings_24 : decode cX12_siblings 24 = .ok (.aload_n 0, 1) := by decide +kernel
theorem dX12_siblings_25 : decode cX12_siblings 25 = .ok (.getfield 39, 3) := by decide +kernel
theorem dX12_siblings_28 : decode cX12_siblings 28 = .ok (.iload 4, 2) := by decide +kernel
theorem dX12_siblings_30 : decode cX12_siblings 30 = .ok (.iaload, 1) := by decide +kernel
theorem dX12_siblings_31 : decode cX12_siblings 31 = .ok (.iload_n 1, 1) := by decide +kernel
theorem dX12_siblings_32 : decode cX12_siblings 32 = .ok (.invokestatic 183, 3) := by decide +kernel
theorem dX12_siblings_35 : decode cX12_siblings 35 = .ok (.ifCond .eq 7, 3) := by decide +kernel
theorem dX12_siblings_38 : decode cX12_siblings 38 = .ok (.iconst 1, 1) := by decide +kernel
theorem dX12_siblings_39 : decode cX12_siblings 39 = .ok (.goto 4, 3) := by decide +kernel
theorem dX12_siblings_42 : decode cX12_siblings 42 = .ok (.iconst 0, 1) := by decide +kernel
theorem dX12_siblings_43 : decode cX12_siblings 43 = .ok (.iadd, 1) := by decide +kernel
theorem dX12_siblings_44 : decode cX12_siblings 44 = .ok (.istore_n 3, 1) := by decide +kernel
theorem dX12_siblings_45 : decode cX12_siblings 45 = .ok (.iinc 4 1, 3) := by decide +kernel
theorem dX12_siblings_48 : decode cX12_siblings 48 = .ok (.goto (-39), 3) := by decide +kernel
theorem dX12_siblings_51 : decode cX12_siblings 51 = .ok (.iload_n 3, 1) := by decide +kernel
theorem dX12_siblings_52 : decode cX12_siblings 52 = .ok (.ireturn, 1) := by decide +kernel
theorem dX12_eldest_0 : decode cX12_eldest 0 = .ok (.bipush (-9), 2) := by decide +kernel
theorem dX12_eldest_2 : decode cX12_eldest 2 = .ok (.istore_n 3, 1) := by decide +kernel
theorem dX12_eldest_3 : decode cX12_eldest 3 = .ok (.sipush 164, 3) := by decide +kernel
theorem dX12_eldest_6 : decode cX12_eldest 6 = .ok (.iload_n 2, 1) := by decide +kernel
theorem dX12_eldest_7 : decode cX12_eldest 7 = .ok (.imul, 1) := by decide +kernel
theorem dX12_eldest_8 : decode cX12_eldest 8 = .ok (.istore 4, 2) := by decide +kernel
theorem dX12_eldest_10 : decode cX12_eldest 10 = .ok (.iload 4, 2) := by decide +kernel
theorem dX12_eldest_12 : decode cX12_eldest 12 = .ok (.sipush 164, 3) := by decide +kernel
theorem dX12_eldest_15 : decode cX12_eldest 15 = .ok (.iload_n 2, 1) := by decide +kernel
theorem dX12_eldest_16 : decode cX12_eldest 16 = .ok (.imul, 1) := by decide +kernel
theorem dX12_eldest_17 : decode cX12_eldest 17 = .ok (.sipush 164, 3) := by decide +kernel
theorem dX12_eldest_20 : decode cX12_eldest 20 = .ok (.iadd, 1) := by decide +kernel
theorem dX12_eldest_21 : decode cX12_eldest 21 = .ok (.if_icmp .ge 52, 3) := by decide +kernel
theorem dX12_eldest_24 : decode cX12_eldest 24 = .ok (.aload_n 0, 1) := by decide +kernel
theorem dX12_eldest_25 : decode cX12_eldest 25 = .ok (.getfield 39, 3) := by decide +kernel
theorem dX12_eldest_28 : decode cX12_eldest 28 = .ok (.iload 4, 2) := by decide +kernel
theorem dX12_eldest_30 : decode cX12_eldest 30 = .ok (.iaload, 1) := by decide +kernel
theorem dX12_eldest_31 : decode cX12_eldest 31 = .ok (.iload_n 1, 1) := by decide +kernel
theorem dX12_eldest_32 : decode cX12_eldest 32 = .ok (.invokestatic 183, 3) := by decide +kernel
theorem dX12_eldest_35 : decode cX12_eldest 35 = .ok (.ifCond .eq 30, 3) := by decide +kernel
theorem dX12_eldest_38 : decode cX12_eldest 38 = .ok (.iload_n 3, 1) := by decide +kernel
theorem dX12_eldest_39 : decode cX12_eldest 39 = .ok (.bipush (-9), 2) := by decide +kernel
theorem dX12_eldest_41 : decode cX12_eldest 41 = .ok (.if_icmp .eq 19, 3) := by decide +kernel
theorem dX12_eldest_44 : decode cX12_eldest 44 = .ok (.aload_n 0, 1) := by decide +kernel
theorem dX12_eldest_45 : decode cX12_eldest 45 = .ok (.getfield 17, 3) := by decide +kernel
theorem dX12_eldest_48 : decode cX12_eldest 48 = .ok (.iload 4, 2) := by decide +kernel
theorem dX12_eldest_50 : decode cX12_eldest 50 = .ok (.iaload, 1) := by decide +kernel
theorem dX12_eldest_51 : decode cX12_eldest 51 = .ok (.aload_n 0, 1) := by decide +kernel
theorem dX12_eldest_52 : decode cX12_eldest 52 = .ok (.getfield 17, 3) := by decide +kernel
theorem dX12_eldest_55 : decode cX12_eldest 55 = .ok (.iload_n 3, 1) := by decide +kernel
theorem dX12_eldest_56 : decode cX12_eldest 56 = .ok (.iaload, 1) := by decide +kernel
theorem dX12_eldest_57 : decode cX12_eldest 57 = .ok (.if_icmp .ge 8, 3) := by decide +kernel
theorem dX12_eldest_60 : decode cX12_eldest 60 = .ok (.iload 4, 2) := by decide +kernel
theorem dX12_eldest_62 : decode cX12_eldest 62 = .ok (.goto 4, 3) := by decide +kernel
theorem dX12_eldest_65 : decode cX12_eldest 65 = .ok (.iload_n 3, 1) := by decide +kernel
theorem dX12_eldest_66 : decode cX12_eldest 66 = .ok (.istore_n 3, 1) := by decide +kernel
theorem dX12_eldest_67 : decode cX12_eldest 67 = .ok (.iinc 4 1, 3) := by decide +kernel
theorem dX12_eldest_70 : decode cX12_eldest 70 = .ok (.goto (-60), 3) := by decide +kernel
theorem dX12_eldest_73 : decode cX12_eldest 73 = .ok (.iload_n 3, 1) := by decide +kernel
theorem dX12_eldest_74 : decode cX12_eldest 74 = .ok (.ireturn, 1) := by decide +kernel
theorem dX12_bounds_0 : decode cX12_bounds 0 = .ok (.aload_n 0, 1) := by decide +kernel
theorem dX12_bounds_1 : decode cX12_bounds 1 = .ok (.iload_n 1, 1) := by decide +kernel
theorem dX12_bounds_2 : decode cX12_bounds 2 = .ok (.iload_n 2, 1) := by decide +kernel
theorem dX12_bounds_3 : decode cX12_bounds 3 = .ok (.invokevirtual 186, 3) := by decide +kernel
theorem dX12_bounds_6 : decode cX12_bounds 6 = .ok (.aload_n 0, 1) := by decide +kernel
theorem dX12_bounds_7 : decode cX12_bounds 7 = .ok (.getfield 95, 3) := by decide +kernel
theorem dX12_bounds_10 : decode cX12_bounds 10 = .ok (.if_icmp .le 34, 3) := by decide +kernel
theorem dX12_bounds_13 : decode cX12_bounds 13 = .ok (.aload_n 0, 1) := by decide +kernel
theorem dX12_bounds_14 : decode cX12_bounds 14 = .ok (.iload_n 1, 1) := by decide +kernel
theorem dX12_bounds_15 : decode cX12_bounds 15 = .ok (.iload_n 2, 1) := by decide +kernel
theorem dX12_bounds_16 : decode cX12_bounds 16 = .ok (.invokevirtual 190, 3) := by decide +kernel
theorem dX12_bounds_19 : decode cX12_bounds 19 = .ok (.istore_n 3, 1) := by decide +kernel
theorem dX12_bounds_20 : decode cX12_bounds 20 = .ok (.aload_n 0, 1) := by decide +kernel
theorem dX12_bounds_21 : decode cX12_bounds 21 = .ok (.getfield 39, 3) := by decide +kernel
theorem dX12_bounds_24 : decode cX12_bounds 24 = .ok (.iload_n 3, 1) := by decide +kernel
theorem dX12_bounds_25 : decode cX12_bounds 25 = .ok (.dup2, 1) := by decide +kernel
theorem dX12_bounds_26 : decode cX12_bounds 26 = .ok (.iaload, 1) := by decide +kernel
theorem dX12_bounds_27 : decode cX12_bounds 27 = .ok (.iconst 1, 1) := by decide +kernel
theorem dX12_bounds_28 : decode cX12_bounds 28 = .ok (.iload_n 1, 1) := by decide +kernel
theorem dX12_bounds_29 : decode cX12_bounds 29 = .ok (.ishl, 1) := by decide +kernel
theorem dX12_bounds_30 : decode cX12_bounds 30 = .ok (.iconst (-1), 1) := by decide +kernel
theorem dX12_bounds_31 : decode cX12_bounds 31 = .ok (.ixor, 1) := by decide +kernel
theorem dX12_bounds_32 : decode cX12_bounds 32 = .ok (.iand, 1) := by decide +kernel
theorem dX12_bounds_33 : decode cX12_bounds 33 = .ok (.iastore, 1) := by decide +kernel
theorem dX12_bounds_34 : decode cX12_bounds 34 = .ok (.aload_n 0, 1) := by decide +kernel
theorem dX12_bounds_35 : decode cX12_bounds 35 = .ok (.getfield 30, 3) := by decide +kernel
theorem dX12_bounds_38 : decode cX12_bounds 38 = .ok (.iload_n 3, 1) := by decide +kernel
theorem dX12_bounds_39 : decode cX12_bounds 39 = .ok (.iconst 1, 1) := by decide +kernel
theorem dX12_bounds_40 : decode cX12_bounds 40 = .ok (.bastore, 1) := by decide +kernel
theorem dX12_bounds_41 : decode cX12_bounds 41 = .ok (.goto (-41), 3) := by decide +kernel
theorem dX12_bounds_44 : decode cX12_bounds 44 = .ok (.return_, 1) := by decide +kernel
theorem dX12_reads_0 : decode cX12_reads 0 = .ok (.iload_n 1, 1) := by decide +kernel
theorem dX12_reads_1 : decode cX12_reads 1 = .ok (.invokestatic 193, 3) := by decide +kernel
theorem dX12_reads_4 : decode cX12_reads 4 = .ok (.ifCond .eq 19, 3) := by decide +kernel
theorem dX12_reads_7 : decode cX12_reads 7 = .ok (.aload_n 0, 1) := by decide +kernel
theorem dX12_reads_8 : decode cX12_reads 8 = .ok (.iload_n 2, 1) := by decide +kernel
theorem dX12_reads_9 : decode cX12_reads 9 = .ok (.invokevirtual 123, 3) := by decide +kernel
theorem dX12_reads_12 : decode cX12_reads 12 = .ok (.ifCond .eq 11, 3) := by decide +kernel
theorem dX12_reads_15 : decode cX12_reads 15 = .ok (.aload_n 0, 1) := by decide +kernel
theorem dX12_reads_16 : decode cX12_reads 16 = .ok (.iload_n 3, 1) := by decide +kernel
theorem dX12_reads_17 : decode cX12_reads 17 = .ok (.invokevirtual 119, 3) := by decide +kernel
theorem dX12_reads_20 : decode cX12_reads 20 = .ok (.ifCond .ne 5, 3) := by decide +kernel
theorem dX12_reads_23 : decode cX12_reads 23 = .ok (.iconst (-1), 1) := by decide +kernel
theorem dX12_reads_24 : decode cX12_reads 24 = .ok (.ireturn, 1) := by decide +kernel
theorem dX12_reads_25 : decode cX12_reads 25 = .ok (.aload_n 0, 1) := by decide +kernel
theorem dX12_reads_26 : decode cX12_reads 26 = .ok (.getfield 51, 3) := by decide +kernel
theorem dX12_reads_29 : decode cX12_reads 29 = .ok (.iload_n 1, 1) := by decide +kernel
theorem dX12_reads_30 : decode cX12_reads 30 = .ok (.iload_n 3, 1) := by decide +kernel
theorem dX12_reads_31 : decode cX12_reads 31 = .ok (.iastore, 1) := by decide +kernel
theorem dX12_reads_32 : decode cX12_reads 32 = .ok (.iconst 0, 1) := by decide +kernel
theorem dX12_reads_33 : decode cX12_reads 33 = .ok (.istore 4, 2) := by decide +kernel
theorem dX12_reads_35 : decode cX12_reads 35 = .ok (.iconst 0, 1) := by decide +kernel
theorem dX12_reads_36 : decode cX12_reads 36 = .ok (.istore 5, 2) := by decide +kernel
theorem dX12_reads_38 : decode cX12_reads 38 = .ok (.iload 5, 2) := by decide +kernel
theorem dX12_reads_40 : decode cX12_reads 40 = .ok (.iconst 4, 1) := by decide +kernel
theorem dX12_reads_41 : decode cX12_reads 41 = .ok (.if_icmp .ge 78, 3) := by decide +kernel
theorem dX12_reads_44 : decode cX12_reads 44 = .ok (.iload 5, 2) := by decide +kernel
theorem dX12_reads_46 : decode cX12_reads 46 = .ok (.aload_n 0, 1) := by decide +kernel
theorem dX12_reads_47 : decode cX12_reads 47 = .ok (.getfield 91, 3) := by decide +kernel
theorem dX12_reads_50 : decode cX12_reads 50 = .ok (.if_icmp .ge 19, 3) := by decide +kernel
theorem dX12_reads_53 : decode cX12_reads 53 = .ok (.aload_n 0, 1) := by decide +kernel
theorem dX12_reads_54 : decode cX12_reads 54 = .ok (.getfield 45, 3) := by decide +kernel
theorem dX12_reads_57 : decode cX12_reads 57 = .ok (.iload_n 3, 1) := by decide +kernel
theorem dX12_reads_58 : decode cX12_reads 58 = .ok (.iload_n 2, 1) := by decide +kernel
theorem dX12_reads_59 : decode cX12_reads 59 = .ok (.invokestatic 196, 3) := by decide +kernel
theorem dX12_reads_62 : decode cX12_reads 62 = .ok (.iload 5, 2) := by decide +kernel
theorem dX12_reads_64 : decode cX12_reads 64 = .ok (.iadd, 1) := by decide +kernel
theorem dX12_reads_65 : decode cX12_reads 65 = .ok (.iaload, 1) := by decide +kernel
theorem dX12_reads_66 : decode cX12_reads 66 = .ok (.goto 4, 3) := by decide +kernel
theorem dX12_reads_69 : decode cX12_reads 69 = .ok (.iconst 0, 1) := by decide +kernel
theorem dX12_reads_70 : decode cX12_reads 70 = .ok (.istore 6, 2) := by decide +kernel
theorem dX12_reads_72 : decode cX12_reads 72 = .ok (.aload_n 0, 1) := by decide +kernel
theorem dX12_reads_73 : decode cX12_reads 73 = .ok (.getfield 54, 3) := by decide +kernel
theorem dX12_reads_76 : decode cX12_reads 76 = .ok (.iconst 4, 1) := by decide +kernel
theorem dX12_reads_77 : decode cX12_reads 77 = .ok (.iload_n 1, 1) := by decide +kernel
theorem dX12_reads_78 : decode cX12_reads 78 = .ok (.imul, 1) := by decide +kernel
theorem dX12_reads_79 : decode cX12_reads 79 = .ok (.iload 5, 2) := by decide +kernel
theorem dX12_reads_81 : decode cX12_reads 81 = .ok (.iadd, 1) := by decide +kernel
theorem dX12_reads_82 : decode cX12_reads 82 = .ok (.iload 6, 2) := by decide +kernel
theorem dX12_reads_84 : decode cX12_reads 84 = .ok (.iastore, 1) := by decide +kernel
theorem dX12_reads_85 : decode cX12_reads 85 = .ok (.aload_n 0, 1) := by decide +kernel
theorem dX12_reads_86 : decode cX12_reads 86 = .ok (.getfield 57, 3) := by decide +kernel
theorem dX12_reads_89 : decode cX12_reads 89 = .ok (.iconst 4, 1) := by decide +kernel
theorem dX12_reads_90 : decode cX12_reads 90 = .ok (.iload_n 1, 1) := by decide +kernel
theorem dX12_reads_91 : decode cX12_reads 91 = .ok (.imul, 1) := by decide +kernel
theorem dX12_reads_92 : decode cX12_reads 92 = .ok (.iload 5, 2) := by decide +kernel
theorem dX12_reads_94 : decode cX12_reads 94 = .ok (.iadd, 1) := by decide +kernel
theorem dX12_reads_95 : decode cX12_reads 95 = .ok (.iload 6, 2) := by decide +kernel
theorem dX12_reads_97 : decode cX12_reads 97 = .ok (.iastore, 1) := by decide +kernel
theorem dX12_reads_98 : decode cX12_reads 98 = .ok (.iload 4, 2) := by decide +kernel
theorem dX12_reads_100 : decode cX12_reads 100 = .ok (.iload 6, 2) := by decide +kernel
theorem dX12_reads_102 : decode cX12_reads 102 = .ok (.ifCond .le 7, 3) := by decide +kernel
theorem dX12_reads_105 : decode cX12_reads 105 = .ok (.iconst 1, 1) := by decide +kernel
theorem dX12_reads_106 : decode cX12_reads 106 = .ok (.goto 4, 3) := by decide +kernel
theorem dX12_reads_109 : decode cX12_reads 109 = .ok (.iconst 0, 1) := by decide +kernel
theorem dX12_reads_110 : decode cX12_reads 110 = .ok (.iadd, 1) := by decide +kernel
theorem dX12_reads_111 : decode cX12_reads 111 = .ok (.istore 4, 2) := by decide +kernel
theorem dX12_reads_113 : decode cX12_reads 113 = .ok (.iinc 5 1, 3) := by decide +kernel
theorem dX12_reads_116 : decode cX12_reads 116 = .ok (.goto (-78), 3) := by decide +kernel
theorem dX12_reads_119 : decode cX12_reads 119 = .ok (.iload 4, 2) := by decide +kernel
theorem dX12_reads_121 : decode cX12_reads 121 = .ok (.aload_n 0, 1) := by decide +kernel
theorem dX12_reads_122 : decode cX12_reads 122 = .ok (.getfield 98, 3) := by decide +kernel
theorem dX12_reads_125 : decode cX12_reads 125 = .ok (.if_icmp .le 127, 3) := by decide +kernel
theorem dX12_reads_128 : decode cX12_reads 128 = .ok (.bipush (-9), 2) := by decide +kernel
theorem dX12_reads_130 : decode cX12_reads 130 = .ok (.istore 5, 2) := by decide +kernel
theorem dX12_reads_132 : decode cX12_reads 132 = .ok (.iconst 0, 1) := by decide +kernel
theorem dX12_reads_133 : decode cX12_reads 133 = .ok (.istore 6, 2) := by decide +kernel
theorem dX12_reads_135 : decode cX12_reads 135 = .ok (.iload 6, 2) := by decide +kernel
theorem dX12_reads_137 : decode cX12_reads 137 = .ok (.aload_n 0, 1) := by decide +kernel
theorem dX12_reads_138 : decode cX12_reads 138 = .ok (.getfield 91, 3) := by decide +kernel
theorem dX12_reads_141 : decode cX12_reads 141 = .ok (.if_icmp .ge 93, 3) := by decide +kernel
theorem dX12_reads_144 : decode cX12_reads 144 = .ok (.aload_n 0, 1) := by decide +kernel
theorem dX12_reads_145 : decode cX12_reads 145 = .ok (.getfield 57, 3) := by decide +kernel
theorem dX12_reads_148 : decode cX12_reads 148 = .ok (.iconst 4, 1) := by decide +kernel
theorem dX12_reads_149 : decode cX12_reads 149 = .ok (.iload_n 1, 1) := by decide +kernel
theorem dX12_reads_150 : decode cX12_reads 150 = .ok (.imul, 1) := by decide +kernel
theorem dX12_reads_151 : decode cX12_reads 151 = .ok (.iload 6, 2) := by decide +kernel
theorem dX12_reads_153 : decode cX12_reads 153 = .ok (.iadd, 1) := by decide +kernel
theorem dX12_reads_154 : decode cX12_reads 154 = .ok (.iaload, 1) := by decide +kernel
theorem dX12_reads_155 : decode cX12_reads 155 = .ok (.istore 7, 2) := by decide +kernel
theorem dX12_reads_157 : decode cX12_reads 157 = .ok (.iload 7, 2) := by decide +kernel
theorem dX12_reads_159 : decode cX12_reads 159 = .ok (.ifCond .le 52, 3) := by decide +kernel
theorem dX12_reads_162 : decode cX12_reads 162 = .ok (.iload 5, 2) := by decide +kernel
theorem dX12_reads_164 : decode cX12_reads 164 = .ok (.bipush (-9), 2) := by decide +kernel
theorem dX12_reads_166 : decode cX12_reads 166 = .ok (.if_icmp .eq 41, 3) := by decide +kernel
theorem dX12_reads_169 : decode cX12_reads 169 = .ok (.aload_n 0, 1) := by decide +kernel
theorem dX12_reads_170 : decode cX12_reads 170 = .ok (.getfield 17, 3) := by decide +kernel
theorem dX12_reads_173 : decode cX12_reads 173 = .ok (.iload_n 3, 1) := by decide +kernel
theorem dX12_reads_174 : decode cX12_reads 174 = .ok (.iload 6, 2) := by decide +kernel
theorem dX12_reads_176 : decode cX12_reads 176 = .ok (.iload 7, 2) := by decide +kernel
theorem dX12_reads_178 : decode cX12_reads 178 = .ok (.invokestatic 199, 3) := by decide +kernel
theorem dX12_reads_181 : decode cX12_reads 181 = .ok (.iaload, 1) := by decide +kernel
theorem dX12_reads_182 : decode cX12_reads 182 = .ok (.aload_n 0, 1) := by decide +kernel
theorem dX12_reads_183 : decode cX12_reads 183 = .ok (.getfield 17, 3) := by decide +kernel
theorem dX12_reads_186 : decode cX12_reads 186 = .ok (.iload_n 3, 1) := by decide +kernel
theorem dX12_reads_187 : decode cX12_reads 187 = .ok (.iload 5, 2) := by decide +kernel
theorem dX12_reads_189 : decode cX12_reads 189 = .ok (.aload_n 0, 1) := by decide +kernel
theorem dX12_reads_190 : decode cX12_reads 190 = .ok (.getfield 57, 3) := by decide +kernel
theorem dX12_reads_193 : decode cX12_reads 193 = .ok (.iconst 4, 1) := by decide +kernel
theorem dX12_reads_194 : decode cX12_reads 194 = .ok (.iload_n 1, 1) := by decide +kernel
theorem dX12_reads_195 : decode cX12_reads 195 = .ok (.imul, 1) := by decide +kernel
theorem dX12_reads_196 : decode cX12_reads 196 = .ok (.iload 5, 2) := by decide +kernel
theorem dX12_reads_198 : decode cX12_reads 198 = .ok (.iadd, 1) := by decide +kernel
theorem dX12_reads_199 : decode cX12_reads 199 = .ok (.iaload, 1) := by decide +kernel
theorem dX12_reads_200 : decode cX12_reads 200 = .ok (.invokestatic 199, 3) := by decide +kernel
theorem dX12_reads_203 : decode cX12_reads 203 = .ok (.iaload, 1) := by decide +kernel
theorem dX12_reads_204 : decode cX12_reads 204 = .ok (.if_icmp .ge 7, 3) := by decide +kernel
theorem dX12_reads_207 : decode cX12_reads 207 = .ok (.iconst 1, 1) := by decide +kernel
theorem dX12_reads_208 : decode cX12_reads 208 = .ok (.goto 4, 3) := by decide +kernel
theorem dX12_reads_211 : decode cX12_reads 211 = .ok (.iconst 0, 1) := by decide +kernel
theorem dX12_reads_212 : decode cX12_reads 212 = .ok (.istore 8, 2) := by decide +kernel
theorem dX12_reads_214 : decode cX12_reads 214 = .ok (.iload 8, 2) := by decide +kernel
theorem dX12_reads_216 : decode cX12_reads 216 = .ok (.ifCond .eq 8, 3) := by decide +kernel
theorem dX12_reads_219 : decode cX12_reads 219 = .ok (.iload 6, 2) := by decide +kernel
theorem dX12_reads_221 : decode cX12_reads 221 = .ok (.goto 5, 3) := by decide +kernel
theorem dX12_reads_224 : decode cX12_reads 224 = .ok (.iload 5, 2) := by decide +kernel
theorem dX12_reads_226 : decode cX12_reads 226 = .ok (.istore 5, 2) := by decide +kernel
theorem dX12_reads_228 : decode cX12_reads 228 = .ok (.iinc 6 1, 3) := by decide +kernel
theorem dX12_reads_231 : decode cX12_reads 231 = .ok (.goto (-96), 3) := by decide +kernel
theorem dX12_reads_234 : decode cX12_reads 234 = .ok (.aload_n 0, 1) := by decide +kernel
theorem dX12_reads_235 : decode cX12_reads 235 = .ok (.getfield 57, 3) := by decide +kernel
theorem dX12_reads_238 : decode cX12_reads 238 = .ok (.iconst 4, 1) := by decide +kernel
theorem dX12_reads_239 : decode cX12_reads 239 = .ok (.iload_n 1, 1) := by decide +kernel
theorem dX12_reads_240 : decode cX12_reads 240 = .ok (.imul, 1) := by decide +kernel
theorem dX12_reads_241 : decode cX12_reads 241 = .ok (.iload 5, 2) := by decide +kernel
theorem dX12_reads_243 : decode cX12_reads 243 = .ok (.iadd, 1) := by decide +kernel
theorem dX12_reads_244 : decode cX12_reads 244 = .ok (.iconst 0, 1) := by decide +kernel
theorem dX12_reads_245 : decode cX12_reads 245 = .ok (.iastore, 1) := by decide +kernel
theorem dX12_reads_246 : decode cX12_reads 246 = .ok (.iinc 4 (-1), 3) := by decide +kernel
theorem dX12_reads_249 : decode cX12_reads 249 = .ok (.goto (-130), 3) := by decide +kernel
theorem dX12_reads_252 : decode cX12_reads 252 = .ok (.sipush 164, 3) := by decide +kernel
theorem dX12_reads_255 : decode cX12_reads 255 = .ok (.iload_n 3, 1) := by decide +kernel
theorem dX12_reads_256 : decode cX12_reads 256 = .ok (.imul, 1) := by decide +kernel
theorem dX12_reads_257 : decode cX12_reads 257 = .ok (.istore 5, 2) := by decide +kernel
theorem dX12_reads_259 : decode cX12_reads 259 = .ok (.iload 5, 2) := by decide +kernel
theorem dX12_reads_261 : decode cX12_reads 261 = .ok (.sipush 164, 3) := by decide +kernel
theorem dX12_reads_264 : decode cX12_reads 264 = .ok (.iload_n 3, 1) := by decide +kernel
theorem dX12_reads_265 : decode cX12_reads 265 = .ok (.imul, 1) := by decide +kernel
theorem dX12_reads_266 : decode cX12_reads 266 = .ok (.sipush 164, 3) := by decide +kernel
theorem dX12_reads_269 : decode cX12_reads 269 = .ok (.iadd, 1) := by decide +kernel
theorem dX12_reads_270 : decode cX12_reads 270 = .ok (.if_icmp .ge 45, 3) := by decide +kernel
theorem dX12_reads_273 : decode cX12_reads 273 = .ok (.aload_n 0, 1) := by decide +kernel
theorem dX12_reads_274 : decode cX12_reads 274 = .ok (.getfield 26, 3) := by decide +kernel
theorem dX12_reads_277 : decode cX12_reads 277 = .ok (.iload 5, 2) := by decide +kernel
theorem dX12_reads_279 : decode cX12_reads 279 = .ok (.aload_n 0, 1) := by decide +kernel
theorem dX12_reads_280 : decode cX12_reads 280 = .ok (.getfield 26, 3) := by decide +kernel
theorem dX12_reads_283 : decode cX12_reads 283 = .ok (.iload 5, 2) := by decide +kernel
theorem dX12_reads_285 : decode cX12_reads 285 = .ok (.baload, 1) := by decide +kernel
theorem dX12_reads_286 : decode cX12_reads 286 = .ok (.ifCond .ne 17, 3) := by decide +kernel
theorem dX12_reads_289 : decode cX12_reads 289 = .ok (.aload_n 0, 1) := by decide +kernel
theorem dX12_reads_290 : decode cX12_reads 290 = .ok (.getfield 39, 3) := by decide +kernel
theorem dX12_reads_293 : decode cX12_reads 293 = .ok (.iload 5, 2) := by decide +kernel
theorem dX12_reads_295 : decode cX12_reads 295 = .ok (.iaload, 1) := by decide +kernel
theorem dX12_reads_296 : decode cX12_reads 296 = .ok (.iload_n 2, 1) := by decide +kernel
theorem dX12_reads_297 : decode cX12_reads 297 = .ok (.invokestatic 183, 3) := by decide +kernel
theorem dX12_reads_300 : decode cX12_reads 300 = .ok (.ifCond .eq 7, 3) := by decide +kernel
theorem dX12_reads_303 : decode cX12_reads 303 = .ok (.iconst 1, 1) := by decide +kernel
theorem dX12_reads_304 : decode cX12_reads 304 = .ok (.goto 4, 3) := by decide +kernel
theorem dX12_reads_307 : decode cX12_reads 307 = .ok (.iconst 0, 1) := by decide +kernel
theorem dX12_reads_308 : decode cX12_reads 308 = .ok (.bastore, 1) := by decide +kernel
theorem dX12_reads_309 : decode cX12_reads 309 = .ok (.iinc 5 1, 3) := by decide +kernel
theorem dX12_reads_312 : decode cX12_reads 312 = .ok (.goto (-53), 3) := by decide +kernel
theorem dX12_reads_315 : decode cX12_reads 315 = .ok (.aload_n 0, 1) := by decide +kernel
theorem dX12_reads_316 : decode cX12_reads 316 = .ok (.iload_n 2, 1) := by decide +kernel
theorem dX12_reads_317 : decode cX12_reads 317 = .ok (.iload_n 3, 1) := by decide +kernel
theorem dX12_reads_318 : decode cX12_reads 318 = .ok (.invokevirtual 186, 3) := by decide +kernel
theorem dX12_reads_321 : decode cX12_reads 321 = .ok (.ireturn, 1) := by decide +kernel
theorem dX12_comes_0 : decode cX12_comes 0 = .ok (.iload_n 1, 1) := by decide +kernel
theorem dX12_comes_1 : decode cX12_comes 1 = .ok (.iload_n 2, 1) := by decide +kernel
theorem dX12_comes_2 : decode cX12_comes 2 = .ok (.invokestatic 196, 3) := by decide +kernel
theorem dX12_comes_5 : decode cX12_comes 5 = .ok (.istore 5, 2) := by decide +kernel
theorem dX12_comes_7 : decode cX12_comes 7 = .ok (.aload_n 0, 1) := by decide +kernel
theorem dX12_comes_8 : decode cX12_comes 8 = .ok (.getfield 42, 3) := by decide +kernel
theorem dX12_comes_11 : decode cX12_comes 11 = .ok (.iconst 4, 1) := by decide +kernel
theorem dX12_comes_12 : decode cX12_comes 12 = .ok (.iload_n 1, 1) := by decide +kernel
theorem dX12_comes_13 : decode cX12_comes 13 = .ok (.imul, 1) := by decide +kernel
theorem dX12_comes_14 : decode cX12_comes 14 = .ok (.iload_n 2, 1) := by decide +kernel
theorem dX12_comes_15 : decode cX12_comes 15 = .ok (.iadd, 1) := by decide +kernel
theorem dX12_comes_16 : decode cX12_comes 16 = .ok (.dup2, 1) := by decide +kernel
theorem dX12_comes_17 : decode cX12_comes 17 = .ok (.iaload, 1) := by decide +kernel
theorem dX12_comes_18 : decode cX12_comes 18 = .ok (.iconst 1, 1) := by decide +kernel
theorem dX12_comes_19 : decode cX12_comes 19 = .ok (.iadd, 1) := by decide +kernel
theorem dX12_comes_20 : decode cX12_comes 20 = .ok (.iastore, 1) := by decide +kernel
theorem dX12_comes_21 : decode cX12_comes 21 = .ok (.aload_n 0, 1) := by decide +kernel
theorem dX12_comes_22 : decode cX12_comes 22 = .ok (.getfield 42, 3) := by decide +kernel
theorem dX12_comes_25 : decode cX12_comes 25 = .ok (.iconst 4, 1) := by decide +kernel
theorem dX12_comes_26 : decode cX12_comes 26 = .ok (.iload_n 1, 1) := by decide +kernel
theorem dX12_comes_27 : decode cX12_comes 27 = .ok (.imul, 1) := by decide +kernel
theorem dX12_comes_28 : decode cX12_comes 28 = .ok (.iload_n 2, 1) := by decide +kernel
theorem dX12_comes_29 : decode cX12_comes 29 = .ok (.iadd, 1) := by decide +kernel
theorem dX12_comes_30 : decode cX12_comes 30 = .ok (.iaload, 1) := by decide +kernel
theorem dX12_comes_31 : decode cX12_comes 31 = .ok (.istore 6, 2) := by decide +kernel
theorem dX12_comes_33 : decode cX12_comes 33 = .ok (.iload_n 1, 1) := by decide +kernel
theorem dX12_comes_34 : decode cX12_comes 34 = .ok (.iload_n 2, 1) := by decide +kernel
theorem dX12_comes_35 : decode cX12_comes 35 = .ok (.iload 6, 2) := by decide +kernel
theorem dX12_comes_37 : decode cX12_comes 37 = .ok (.invokestatic 199, 3) := by decide +kernel
theorem dX12_comes_40 : decode cX12_comes 40 = .ok (.istore 7, 2) := by decide +kernel
theorem dX12_comes_42 : decode cX12_comes 42 = .ok (.aload_n 0, 1) := by decide +kernel
theorem dX12_comes_43 : decode cX12_comes 43 = .ok (.dup, 1) := by decide +kernel
theorem dX12_comes_44 : decode cX12_comes 44 = .ok (.getfield 107, 3) := by decide +kernel
theorem dX12_comes_47 : decode cX12_comes 47 = .ok (.iconst 1, 1) := by decide +kernel
theorem dX12_comes_48 : decode cX12_comes 48 = .ok (.iadd, 1) := by decide +kernel
theorem dX12_comes_49 : decode cX12_comes 49 = .ok (.putfield 107, 3) := by decide +kernel
theorem dX12_comes_52 : decode cX12_comes 52 = .ok (.aload_n 0, 1) := by decide +kernel
theorem dX12_comes_53 : decode cX12_comes 53 = .ok (.getfield 17, 3) := by decide +kernel
theorem dX12_comes_56 : decode cX12_comes 56 = .ok (.iload 7, 2) := by decide +kernel
theorem dX12_comes_58 : decode cX12_comes 58 = .ok (.aload_n 0, 1) := by decide +kernel
theorem dX12_comes_59 : decode cX12_comes 59 = .ok (.getfield 107, 3) := by decide +kernel
theorem dX12_comes_62 : decode cX12_comes 62 = .ok (.iastore, 1) := by decide +kernel
theorem dX12_comes_63 : decode cX12_comes 63 = .ok (.aload_n 0, 1) := by decide +kernel
theorem dX12_comes_64 : decode cX12_comes 64 = .ok (.getfield 13, 3) := by decide +kernel
theorem dX12_comes_67 : decode cX12_comes 67 = .ok (.iload 7, 2) := by decide +kernel
theorem dX12_comes_69 : decode cX12_comes 69 = .ok (.lload_n 3, 1) := by decide +kernel
theorem dX12_comes_70 : decode cX12_comes 70 = .ok (.lastore, 1) := by decide +kernel
theorem dX12_comes_71 : decode cX12_comes 71 = .ok (.iconst 0, 1) := by decide +kernel
theorem dX12_comes_72 : decode cX12_comes 72 = .ok (.istore 8, 2) := by decide +kernel
theorem dX12_comes_74 : decode cX12_comes 74 = .ok (.iload 8, 2) := by decide +kernel
theorem dX12_comes_76 : decode cX12_comes 76 = .ok (.iconst 4, 1) := by decide +kernel
theorem dX12_comes_77 : decode cX12_comes 77 = .ok (.if_icmp .ge 80, 3) := by decide +kernel
theorem dX12_comes_80 : decode cX12_comes 80 = .ok (.aload_n 0, 1) := by decide +kernel
theorem dX12_comes_81 : decode cX12_comes 81 = .ok (.getfield 45, 3) := by decide +kernel
theorem dX12_comes_84 : decode cX12_comes 84 = .ok (.iload 5, 2) := by decide +kernel
theorem dX12_comes_86 : decode cX12_comes 86 = .ok (.iload 8, 2) := by decide +kernel
theorem dX12_comes_88 : decode cX12_comes 88 = .ok (.iadd, 1) := by decide +kernel
theorem dX12_comes_89 : decode cX12_comes 89 = .ok (.iload 8, 2) := by decide +kernel
theorem dX12_comes_91 : decode cX12_comes 91 = .ok (.iload_n 2, 1) := by decide +kernel
theorem dX12_comes_92 : decode cX12_comes 92 = .ok (.if_icmp .ne 8, 3) := by decide +kernel
theorem dX12_comes_95 : decode cX12_comes 95 = .ok (.iload 6, 2) := by decide +kernel
theorem dX12_comes_97 : decode cX12_comes 97 = .ok (.goto 53, 3) := by decide +kernel
theorem dX12_comes_100 : decode cX12_comes 100 = .ok (.aload_n 0, 1) := by decide +kernel
theorem dX12_comes_101 : decode cX12_comes 101 = .ok (.getfield 20, 3) := by decide +kernel
theorem dX12_comes_104 : decode cX12_comes 104 = .ok (.iconst 4, 1) := by decide +kernel
theorem dX12_comes_105 : decode cX12_comes 105 = .ok (.iload 7, 2) := by decide +kernel
theorem dX12_comes_107 : decode cX12_comes 107 = .ok (.imul, 1) := by decide +kernel
theorem dX12_comes_108 : decode cX12_comes 108 = .ok (.iload 8, 2) := by decide +kernel
theorem dX12_comes_110 : decode cX12_comes 110 = .ok (.iadd, 1) := by decide +kernel
theorem dX12_comes_111 : decode cX12_comes 111 = .ok (.iaload, 1) := by decide +kernel
theorem dX12_comes_112 : decode cX12_comes 112 = .ok (.aload_n 0, 1) := by decide +kernel
theorem dX12_comes_113 : decode cX12_comes 113 = .ok (.getfield 45, 3) := by decide +kernel
theorem dX12_comes_116 : decode cX12_comes 116 = .ok (.iload 5, 2) := by decide +kernel
theorem dX12_comes_118 : decode cX12_comes 118 = .ok (.iload 8, 2) := by decide +kernel
theorem dX12_comes_120 : decode cX12_comes 120 = .ok (.iadd, 1) := by decide +kernel
theorem dX12_comes_121 : decode cX12_comes 121 = .ok (.iaload, 1) := by decide +kernel
theorem dX12_comes_122 : decode cX12_comes 122 = .ok (.if_icmp .le 18, 3) := by decide +kernel
theorem dX12_comes_125 : decode cX12_comes 125 = .ok (.aload_n 0, 1) := by decide +kernel
theorem dX12_comes_126 : decode cX12_comes 126 = .ok (.getfield 20, 3) := by decide +kernel
theorem dX12_comes_129 : decode cX12_comes 129 = .ok (.iconst 4, 1) := by decide +kernel
theorem dX12_comes_130 : decode cX12_comes 130 = .ok (.iload 7, 2) := by decide +kernel
theorem dX12_comes_132 : decode cX12_comes 132 = .ok (.imul, 1) := by decide +kernel
theorem dX12_comes_133 : decode cX12_comes 133 = .ok (.iload 8, 2) := by decide +kernel
theorem dX12_comes_135 : decode cX12_comes 135 = .ok (.iadd, 1) := by decide +kernel
theorem dX12_comes_136 : decode cX12_comes 136 = .ok (.iaload, 1) := by decide +kernel
theorem dX12_comes_137 : decode cX12_comes 137 = .ok (.goto 13, 3) := by decide +kernel
theorem dX12_comes_140 : decode cX12_comes 140 = .ok (.aload_n 0, 1) := by decide +kernel
theorem dX12_comes_141 : decode cX12_comes 141 = .ok (.getfield 45, 3) := by decide +kernel
theorem dX12_comes_144 : decode cX12_comes 144 = .ok (.iload 5, 2) := by decide +kernel
theorem dX12_comes_146 : decode cX12_comes 146 = .ok (.iload 8, 2) := by decide +kernel
theorem dX12_comes_148 : decode cX12_comes 148 = .ok (.iadd, 1) := by decide +kernel
theorem dX12_comes_149 : decode cX12_comes 149 = .ok (.iaload, 1) := by decide +kernel
theorem dX12_comes_150 : decode cX12_comes 150 = .ok (.iastore, 1) := by decide +kernel
theorem dX12_comes_151 : decode cX12_comes 151 = .ok (.iinc 8 1, 3) := by decide +kernel
theorem dX12_comes_154 : decode cX12_comes 154 = .ok (.goto (-80), 3) := by decide +kernel
theorem dX12_comes_157 : decode cX12_comes 157 = .ok (.aload_n 0, 1) := by decide +kernel
theorem dX12_comes_158 : decode cX12_comes 158 = .ok (.getfield 39, 3) := by decide +kernel
theorem dX12_comes_161 : decode cX12_comes 161 = .ok (.iload 7, 2) := by decide +kernel
theorem dX12_comes_163 : decode cX12_comes 163 = .ok (.iconst 1, 1) := by decide +kernel
theorem dX12_comes_164 : decode cX12_comes 164 = .ok (.iload_n 2, 1) := by decide +kernel
theorem dX12_comes_165 : decode cX12_comes 165 = .ok (.ishl, 1) := by decide +kernel
theorem dX12_comes_166 : decode cX12_comes 166 = .ok (.iastore, 1) := by decide +kernel
theorem dX12_comes_167 : decode cX12_comes 167 = .ok (.aload_n 0, 1) := by decide +kernel
theorem dX12_comes_168 : decode cX12_comes 168 = .ok (.iload_n 2, 1) := by decide +kernel
theorem dX12_comes_169 : decode cX12_comes 169 = .ok (.iload_n 1, 1) := by decide +kernel
theorem dX12_comes_170 : decode cX12_comes 170 = .ok (.invokevirtual 203, 3) := by decide +kernel
theorem dX12_comes_173 : decode cX12_comes 173 = .ok (.iload 6, 2) := by decide +kernel
theorem dX12_comes_175 : decode cX12_comes 175 = .ok (.ireturn, 1) := by decide +kernel
theorem dX12_writes_0 : decode cX12_writes 0 = .ok (.iload_n 1, 1) := by decide +kernel
theorem dX12_writes_1 : decode cX12_writes 1 = .ok (.invokestatic 193, 3) := by decide +kernel
theorem dX12_writes_4 : decode cX12_writes 4 = .ok (.ifCond .eq 43, 3) := by decide +kernel
theorem dX12_writes_7 : decode cX12_writes 7 = .ok (.aload_n 0, 1) := by decide +kernel
theorem dX12_writes_8 : decode cX12_writes 8 = .ok (.iload_n 2, 1) := by decide +kernel
theorem dX12_writes_9 : decode cX12_writes 9 = .ok (.invokevirtual 123, 3) := by decide +kernel
theorem dX12_writes_12 : decode cX12_writes 12 = .ok (.ifCond .eq 35, 3) := by decide +kernel
theorem dX12_writes_15 : decode cX12_writes 15 = .ok (.aload_n 0, 1) := by decide +kernel
theorem dX12_writes_16 : decode cX12_writes 16 = .ok (.iload_n 3, 1) := by decide +kernel
theorem dX12_writes_17 : decode cX12_writes 17 = .ok (.invokevirtual 119, 3) := by decide +kernel
theorem dX12_writes_20 : decode cX12_writes 20 = .ok (.ifCond .eq 27, 3) := by decide +kernel
theorem dX12_writes_23 : decode cX12_writes 23 = .ok (.iload 4, 2) := by decide +kernel
theorem dX12_writes_25 : decode cX12_writes 25 = .ok (.i2l, 1) := by decide +kernel
theorem dX12_writes_26 : decode cX12_writes 26 = .ok (.lconst 0, 1) := by decide +kernel
theorem dX12_writes_27 : decode cX12_writes 27 = .ok (.lconst 1, 1) := by decide +kernel
theorem dX12_writes_28 : decode cX12_writes 28 = .ok (.invokestatic 113, 3) := by decide +kernel
theorem dX12_writes_31 : decode cX12_writes 31 = .ok (.ifCond .eq 16, 3) := by decide +kernel
theorem dX12_writes_34 : decode cX12_writes 34 = .ok (.iload 4, 2) := by decide +kernel
theorem dX12_writes_36 : decode cX12_writes 36 = .ok (.iconst 1, 1) := by decide +kernel
theorem dX12_writes_37 : decode cX12_writes 37 = .ok (.if_icmp .ne 12, 3) := by decide +kernel
theorem dX12_writes_40 : decode cX12_writes 40 = .ok (.lload 5, 2) := by decide +kernel
theorem dX12_writes_42 : decode cX12_writes 42 = .ok (.lconst 0, 1) := by decide +kernel
theorem dX12_writes_43 : decode cX12_writes 43 = .ok (.lcmp, 1) := by decide +kernel
theorem dX12_writes_44 : decode cX12_writes 44 = .ok (.ifCond .ge 5, 3) := by decide +kernel
theorem dX12_writes_47 : decode cX12_writes 47 = .ok (.iconst (-1), 1) := by decide +kernel
theorem dX12_writes_48 : decode cX12_writes 48 = .ok (.ireturn, 1) := by decide +kernel
theorem dX12_writes_49 : decode cX12_writes 49 = .ok (.aload_n 0, 1) := by decide +kernel
theorem dX12_writes_50 : decode cX12_writes 50 = .ok (.getfield 42, 3) := by decide +kernel
theorem dX12_writes_53 : decode cX12_writes 53 = .ok (.iconst 4, 1) := by decide +kernel
theorem dX12_writes_54 : decode cX12_writes 54 = .ok (.iload_n 3, 1) := by decide +kernel
theorem dX12_writes_55 : decode cX12_writes 55 = .ok (.imul, 1) := by decide +kernel
theorem dX12_writes_56 : decode cX12_writes 56 = .ok (.iload_n 2, 1) := by decide +kernel
theorem dX12_writes_57 : decode cX12_writes 57 = .ok (.iadd, 1) := by decide +kernel
theorem dX12_writes_58 : decode cX12_writes 58 = .ok (.iaload, 1) := by decide +kernel
theorem dX12_writes_59 : decode cX12_writes 59 = .ok (.bipush 40, 2) := by decide +kernel
theorem dX12_writes_61 : decode cX12_writes 61 = .ok (.if_icmp .ne 6, 3) := by decide +kernel
theorem dX12_writes_64 : decode cX12_writes 64 = .ok (.bipush (-3), 2) := by decide +kernel
theorem dX12_writes_66 : decode cX12_writes 66 = .ok (.ireturn, 1) := by decide +kernel
theorem dX12_writes_67 : decode cX12_writes 67 = .ok (.aload_n 0, 1) := by decide +kernel
theorem dX12_writes_68 : decode cX12_writes 68 = .ok (.getfield 7, 3) := by decide +kernel
theorem dX12_writes_71 : decode cX12_writes 71 = .ok (.iload_n 3, 1) := by decide +kernel
theorem dX12_writes_72 : decode cX12_writes 72 = .ok (.iaload, 1) := by decide +kernel
theorem dX12_writes_73 : decode cX12_writes 73 = .ok (.iload 4, 2) := by decide +kernel
theorem dX12_writes_75 : decode cX12_writes 75 = .ok (.if_icmp .eq 6, 3) := by decide +kernel
theorem dX12_writes_78 : decode cX12_writes 78 = .ok (.bipush (-4), 2) := by decide +kernel
theorem dX12_writes_80 : decode cX12_writes 80 = .ok (.ireturn, 1) := by decide +kernel
theorem dX12_writes_81 : decode cX12_writes 81 = .ok (.aload_n 0, 1) := by decide +kernel
theorem dX12_writes_82 : decode cX12_writes 82 = .ok (.getfield 51, 3) := by decide +kernel
theorem dX12_writes_85 : decode cX12_writes 85 = .ok (.iload_n 1, 1) := by decide +kernel
theorem dX12_writes_86 : decode cX12_writes 86 = .ok (.iaload, 1) := by decide +kernel
theorem dX12_writes_87 : decode cX12_writes 87 = .ok (.iload_n 3, 1) := by decide +kernel
theorem dX12_writes_88 : decode cX12_writes 88 = .ok (.if_icmp .ne 7, 3) := by decide +kernel
theorem dX12_writes_91 : decode cX12_writes 91 = .ok (.iconst 1, 1) := by decide +kernel
theorem dX12_writes_92 : decode cX12_writes 92 = .ok (.goto 4, 3) := by decide +kernel
theorem dX12_writes_95 : decode cX12_writes 95 = .ok (.iconst 0, 1) := by decide +kernel
theorem dX12_writes_96 : decode cX12_writes 96 = .ok (.istore 7, 2) := by decide +kernel
theorem dX12_writes_98 : decode cX12_writes 98 = .ok (.iload_n 3, 1) := by decide +kernel
theorem dX12_writes_99 : decode cX12_writes 99 = .ok (.iload_n 2, 1) := by decide +kernel
theorem dX12_writes_100 : decode cX12_writes 100 = .ok (.aload_n 0, 1) := by decide +kernel
theorem dX12_writes_101 : decode cX12_writes 101 = .ok (.getfield 42, 3) := by decide +kernel
theorem dX12_writes_104 : decode cX12_writes 104 = .ok (.iconst 4, 1) := by decide +kernel
theorem dX12_writes_105 : decode cX12_writes 105 = .ok (.iload_n 3, 1) := by decide +kernel
theorem dX12_writes_106 : decode cX12_writes 106 = .ok (.imul, 1) := by decide +kernel
theorem dX12_writes_107 : decode cX12_writes 107 = .ok (.iload_n 2, 1) := by decide +kernel
theorem dX12_writes_108 : decode cX12_writes 108 = .ok (.iadd, 1) := by decide +kernel
theorem dX12_writes_109 : decode cX12_writes 109 = .ok (.iaload, 1) := by decide +kernel
theorem dX12_writes_110 : decode cX12_writes 110 = .ok (.iconst 1, 1) := by decide +kernel
theorem dX12_writes_111 : decode cX12_writes 111 = .ok (.iadd, 1) := by decide +kernel
theorem dX12_writes_112 : decode cX12_writes 112 = .ok (.invokestatic 199, 3) := by decide +kernel
theorem dX12_writes_115 : decode cX12_writes 115 = .ok (.istore 8, 2) := by decide +kernel
theorem dX12_writes_117 : decode cX12_writes 117 = .ok (.iconst 0, 1) := by decide +kernel
theorem dX12_writes_118 : decode cX12_writes 118 = .ok (.istore 9, 2) := by decide +kernel
theorem dX12_writes_120 : decode cX12_writes 120 = .ok (.iload 9, 2) := by decide +kernel
theorem dX12_writes_122 : decode cX12_writes 122 = .ok (.iconst 4, 1) := by decide +kernel
theorem dX12_writes_123 : decode cX12_writes 123 = .ok (.if_icmp .ge 73, 3) := by decide +kernel
theorem dX12_writes_126 : decode cX12_writes 126 = .ok (.aload_n 0, 1) := by decide +kernel
theorem dX12_writes_127 : decode cX12_writes 127 = .ok (.getfield 20, 3) := by decide +kernel
theorem dX12_writes_130 : decode cX12_writes 130 = .ok (.iconst 4, 1) := by decide +kernel
theorem dX12_writes_131 : decode cX12_writes 131 = .ok (.iload 8, 2) := by decide +kernel
theorem dX12_writes_133 : decode cX12_writes 133 = .ok (.imul, 1) := by decide +kernel
theorem dX12_writes_134 : decode cX12_writes 134 = .ok (.iload 9, 2) := by decide +kernel
theorem dX12_writes_136 : decode cX12_writes 136 = .ok (.iadd, 1) := by decide +kernel
theorem dX12_writes_137 : decode cX12_writes 137 = .ok (.iload 7, 2) := by decide +kernel
theorem dX12_writes_139 : decode cX12_writes 139 = .ok (.ifCond .eq 17, 3) := by decide +kernel
theorem dX12_writes_142 : decode cX12_writes 142 = .ok (.aload_n 0, 1) := by decide +kernel
theorem dX12_writes_143 : decode cX12_writes 143 = .ok (.getfield 57, 3) := by decide +kernel
theorem dX12_writes_146 : decode cX12_writes 146 = .ok (.iconst 4, 1) := by decide +kernel
theorem dX12_writes_147 : decode cX12_writes 147 = .ok (.iload_n 1, 1) := by decide +kernel
theorem dX12_writes_148 : decode cX12_writes 148 = .ok (.imul, 1) := by decide +kernel
theorem dX12_writes_149 : decode cX12_writes 149 = .ok (.iload 9, 2) := by decide +kernel
theorem dX12_writes_151 : decode cX12_writes 151 = .ok (.iadd, 1) := by decide +kernel
theorem dX12_writes_152 : decode cX12_writes 152 = .ok (.iaload, 1) := by decide +kernel
theorem dX12_writes_153 : decode cX12_writes 153 = .ok (.goto 4, 3) := by decide +kernel
theorem dX12_writes_156 : decode cX12_writes 156 = .ok (.iconst 0, 1) := by decide +kernel
theorem dX12_writes_157 : decode cX12_writes 157 = .ok (.iastore, 1) := by decide +kernel
theorem dX12_writes_158 : decode cX12_writes 158 = .ok (.aload_n 0, 1) := by decide +kernel
theorem dX12_writes_159 : decode cX12_writes 159 = .ok (.getfield 23, 3) := by decide +kernel
theorem dX12_writes_162 : decode cX12_writes 162 = .ok (.iconst 4, 1) := by decide +kernel
theorem dX12_writes_163 : decode cX12_writes 163 = .ok (.iload 8, 2) := by decide +kernel
theorem dX12_writes_165 : decode cX12_writes 165 = .ok (.imul, 1) := by decide +kernel
theorem dX12_writes_166 : decode cX12_writes 166 = .ok (.iload 9, 2) := by decide +kernel
theorem dX12_writes_168 : decode cX12_writes 168 = .ok (.iadd, 1) := by decide +kernel
theorem dX12_writes_169 : decode cX12_writes 169 = .ok (.iload 7, 2) := by decide +kernel
theorem dX12_writes_171 : decode cX12_writes 171 = .ok (.ifCond .eq 17, 3) := by decide +kernel
theorem dX12_writes_174 : decode cX12_writes 174 = .ok (.aload_n 0, 1) := by decide +kernel
theorem dX12_writes_175 : decode cX12_writes 175 = .ok (.getfield 54, 3) := by decide +kernel
theorem dX12_writes_178 : decode cX12_writes 178 = .ok (.iconst 4, 1) := by decide +kernel
theorem dX12_writes_179 : decode cX12_writes 179 = .ok (.iload_n 1, 1) := by decide +kernel
theorem dX12_writes_180 : decode cX12_writes 180 = .ok (.imul, 1) := by decide +kernel
theorem dX12_writes_181 : decode cX12_writes 181 = .ok (.iload 9, 2) := by decide +kernel
theorem dX12_writes_183 : decode cX12_writes 183 = .ok (.iadd, 1) := by decide +kernel
theorem dX12_writes_184 : decode cX12_writes 184 = .ok (.iaload, 1) := by decide +kernel
theorem dX12_writes_185 : decode cX12_writes 185 = .ok (.goto 4, 3) := by decide +kernel
theorem dX12_writes_188 : decode cX12_writes 188 = .ok (.iconst 0, 1) := by decide +kernel
theorem dX12_writes_189 : decode cX12_writes 189 = .ok (.iastore, 1) := by decide +kernel
theorem dX12_writes_190 : decode cX12_writes 190 = .ok (.iinc 9 1, 3) := by decide +kernel
theorem dX12_writes_193 : decode cX12_writes 193 = .ok (.goto (-73), 3) := by decide +kernel
theorem dX12_writes_196 : decode cX12_writes 196 = .ok (.aload_n 0, 1) := by decide +kernel
theorem dX12_writes_197 : decode cX12_writes 197 = .ok (.getfield 51, 3) := by decide +kernel
theorem dX12_writes_200 : decode cX12_writes 200 = .ok (.iload_n 1, 1) := by decide +kernel
theorem dX12_writes_201 : decode cX12_writes 201 = .ok (.iload 7, 2) := by decide +kernel
theorem dX12_writes_203 : decode cX12_writes 203 = .ok (.ifCond .eq 8, 3) := by decide +kernel
theorem dX12_writes_206 : decode cX12_writes 206 = .ok (.bipush (-9), 2) := by decide +kernel
theorem dX12_writes_208 : decode cX12_writes 208 = .ok (.goto 9, 3) := by decide +kernel
theorem dX12_writes_211 : decode cX12_writes 211 = .ok (.aload_n 0, 1) := by decide +kernel
theorem dX12_writes_212 : decode cX12_writes 212 = .ok (.getfield 51, 3) := by decide +kernel
theorem dX12_writes_215 : decode cX12_writes 215 = .ok (.iload_n 1, 1) := by decide +kernel
theorem dX12_writes_216 : decode cX12_writes 216 = .ok (.iaload, 1) := by decide +kernel
theorem dX12_writes_217 : decode cX12_writes 217 = .ok (.iastore, 1) := by decide +kernel
theorem dX12_writes_218 : decode cX12_writes 218 = .ok (.iconst 0, 1) := by decide +kernel
theorem dX12_writes_219 : decode cX12_writes 219 = .ok (.istore 9, 2) := by decide +kernel
theorem dX12_writes_221 : decode cX12_writes 221 = .ok (.iload 9, 2) := by decide +kernel
theorem dX12_writes_223 : decode cX12_writes 223 = .ok (.aload_n 0, 1) := by decide +kernel
theorem dX12_writes_224 : decode cX12_writes 224 = .ok (.getfield 91, 3) := by decide +kernel
theorem dX12_writes_227 : decode cX12_writes 227 = .ok (.if_icmp .ge 137, 3) := by decide +kernel
theorem dX12_writes_230 : decode cX12_writes 230 = .ok (.iconst 1, 1) := by decide +kernel
theorem dX12_writes_231 : decode cX12_writes 231 = .ok (.istore 10, 2) := by decide +kernel
theorem dX12_writes_233 : decode cX12_writes 233 = .ok (.iload 10, 2) := by decide +kernel
theorem dX12_writes_235 : decode cX12_writes 235 = .ok (.aload_n 0, 1) := by decide +kernel
theorem dX12_writes_236 : decode cX12_writes 236 = .ok (.getfield 42, 3) := by decide +kernel
theorem dX12_writes_239 : decode cX12_writes 239 = .ok (.iconst 4, 1) := by decide +kernel
theorem dX12_writes_240 : decode cX12_writes 240 = .ok (.iload_n 3, 1) := by decide +kernel
theorem dX12_writes_241 : decode cX12_writes 241 = .ok (.imul, 1) := by decide +kernel
theorem dX12_writes_242 : decode cX12_writes 242 = .ok (.iload 9, 2) := by decide +kernel
theorem dX12_writes_244 : decode cX12_writes 244 = .ok (.iadd, 1) := by decide +kernel
theorem dX12_writes_245 : decode cX12_writes 245 = .ok (.iaload, 1) := by decide +kernel
theorem dX12_writes_246 : decode cX12_writes 246 = .ok (.if_icmp .gt 112, 3) := by decide +kernel
theorem dX12_writes_249 : decode cX12_writes 249 = .ok (.iload_n 3, 1) := by decide +kernel
theorem dX12_writes_250 : decode cX12_writes 250 = .ok (.iload 9, 2) := by decide +kernel
theorem dX12_writes_252 : decode cX12_writes 252 = .ok (.iload 10, 2) := by decide +kernel
theorem dX12_writes_254 : decode cX12_writes 254 = .ok (.invokestatic 199, 3) := by decide +kernel
theorem dX12_writes_257 : decode cX12_writes 257 = .ok (.istore 11, 2) := by decide +kernel
theorem dX12_writes_259 : decode cX12_writes 259 = .ok (.aload_n 0, 1) := by decide +kernel
theorem dX12_writes_260 : decode cX12_writes 260 = .ok (.getfield 39, 3) := by decide +kernel
theorem dX12_writes_263 : decode cX12_writes 263 = .ok (.iload 11, 2) := by decide +kernel
theorem dX12_writes_265 : decode cX12_writes 265 = .ok (.iaload, 1) := by decide +kernel
theorem dX12_writes_266 : decode cX12_writes 266 = .ok (.iload_n 2, 1) := by decide +kernel
theorem dX12_writes_267 : decode cX12_writes 267 = .ok (.invokestatic 183, 3) := by decide +kernel
theorem dX12_writes_270 : decode cX12_writes 270 = .ok (.istore 12, 2) := by decide +kernel
theorem dX12_writes_272 : decode cX12_writes 272 = .ok (.iload 12, 2) := by decide +kernel
theorem dX12_writes_274 : decode cX12_writes 274 = .ok (.ifCond .eq 46, 3) := by decide +kernel
theorem dX12_writes_277 : decode cX12_writes 277 = .ok (.aload_n 0, 1) := by decide +kernel
theorem dX12_writes_278 : decode cX12_writes 278 = .ok (.getfield 20, 3) := by decide +kernel
theorem dX12_writes_281 : decode cX12_writes 281 = .ok (.iconst 4, 1) := by decide +kernel
theorem dX12_writes_282 : decode cX12_writes 282 = .ok (.iload 8, 2) := by decide +kernel
theorem dX12_writes_284 : decode cX12_writes 284 = .ok (.imul, 1) := by decide +kernel
theorem dX12_writes_285 : decode cX12_writes 285 = .ok (.iload 9, 2) := by decide +kernel
theorem dX12_writes_287 : decode cX12_writes 287 = .ok (.iadd, 1) := by decide +kernel
theorem dX12_writes_288 : decode cX12_writes 288 = .ok (.iaload, 1) := by decide +kernel
theorem dX12_writes_289 : decode cX12_writes 289 = .ok (.iload 10, 2) := by decide +kernel
theorem dX12_writes_291 : decode cX12_writes 291 = .ok (.if_icmp .lt 29, 3) := by decide +kernel
theorem dX12_writes_294 : decode cX12_writes 294 = .ok (.aload_n 0, 1) := by decide +kernel
theorem dX12_writes_295 : decode cX12_writes 295 = .ok (.getfield 39, 3) := by decide +kernel
theorem dX12_writes_298 : decode cX12_writes 298 = .ok (.iload 11, 2) := by decide +kernel
theorem dX12_writes_300 : decode cX12_writes 300 = .ok (.dup2, 1) := by decide +kernel
theorem dX12_writes_301 : decode cX12_writes 301 = .ok (.iaload, 1) := by decide +kernel
theorem dX12_writes_302 : decode cX12_writes 302 = .ok (.iconst 1, 1) := by decide +kernel
theorem dX12_writes_303 : decode cX12_writes 303 = .ok (.iload_n 2, 1) := by decide +kernel
theorem dX12_writes_304 : decode cX12_writes 304 = .ok (.ishl, 1) := by decide +kernel
theorem dX12_writes_305 : decode cX12_writes 305 = .ok (.iconst (-1), 1) := by decide +kernel
theorem dX12_writes_306 : decode cX12_writes 306 = .ok (.ixor, 1) := by decide +kernel
theorem dX12_writes_307 : decode cX12_writes 307 = .ok (.iand, 1) := by decide +kernel
theorem dX12_writes_308 : decode cX12_writes 308 = .ok (.iastore, 1) := by decide +kernel
theorem dX12_writes_309 : decode cX12_writes 309 = .ok (.aload_n 0, 1) := by decide +kernel
theorem dX12_writes_310 : decode cX12_writes 310 = .ok (.getfield 33, 3) := by decide +kernel
theorem dX12_writes_313 : decode cX12_writes 313 = .ok (.iload 11, 2) := by decide +kernel
theorem dX12_writes_315 : decode cX12_writes 315 = .ok (.iconst 1, 1) := by decide +kernel
theorem dX12_writes_316 : decode cX12_writes 316 = .ok (.bastore, 1) := by decide +kernel
theorem dX12_writes_317 : decode cX12_writes 317 = .ok (.goto 35, 3) := by decide +kernel
theorem dX12_writes_320 : decode cX12_writes 320 = .ok (.iload 12, 2) := by decide +kernel
theorem dX12_writes_322 : decode cX12_writes 322 = .ok (.ifCond .eq 30, 3) := by decide +kernel
theorem dX12_writes_325 : decode cX12_writes 325 = .ok (.aload_n 0, 1) := by decide +kernel
theorem dX12_writes_326 : decode cX12_writes 326 = .ok (.getfield 23, 3) := by decide +kernel
theorem dX12_writes_329 : decode cX12_writes 329 = .ok (.iconst 4, 1) := by decide +kernel
theorem dX12_writes_330 : decode cX12_writes 330 = .ok (.iload 8, 2) := by decide +kernel
theorem dX12_writes_332 : decode cX12_writes 332 = .ok (.imul, 1) := by decide +kernel
theorem dX12_writes_333 : decode cX12_writes 333 = .ok (.iload 9, 2) := by decide +kernel
theorem dX12_writes_335 : decode cX12_writes 335 = .ok (.iadd, 1) := by decide +kernel
theorem dX12_writes_336 : decode cX12_writes 336 = .ok (.iaload, 1) := by decide +kernel
theorem dX12_writes_337 : decode cX12_writes 337 = .ok (.iload 10, 2) := by decide +kernel
theorem dX12_writes_339 : decode cX12_writes 339 = .ok (.if_icmp .lt 13, 3) := by decide +kernel
theorem dX12_writes_342 : decode cX12_writes 342 = .ok (.aload_n 0, 1) := by decide +kernel
theorem dX12_writes_343 : decode cX12_writes 343 = .ok (.getfield 48, 3) := by decide +kernel
theorem dX12_writes_346 : decode cX12_writes 346 = .ok (.iload_n 3, 1) := by decide +kernel
theorem dX12_writes_347 : decode cX12_writes 347 = .ok (.dup2, 1) := by decide +kernel
theorem dX12_writes_348 : decode cX12_writes 348 = .ok (.iaload, 1) := by decide +kernel
theorem dX12_writes_349 : decode cX12_writes 349 = .ok (.iconst 1, 1) := by decide +kernel
theorem dX12_writes_350 : decode cX12_writes 350 = .ok (.iadd, 1) := by decide +kernel
theorem dX12_writes_351 : decode cX12_writes 351 = .ok (.iastore, 1) := by decide +kernel
theorem dX12_writes_352 : decode cX12_writes 352 = .ok (.iinc 10 1, 3) := by decide +kernel
theorem dX12_writes_355 : decode cX12_writes 355 = .ok (.goto (-122), 3) := by decide +kernel
theorem dX12_writes_358 : decode cX12_writes 358 = .ok (.iinc 9 1, 3) := by decide +kernel
theorem dX12_writes_361 : decode cX12_writes 361 = .ok (.goto (-140), 3) := by decide +kernel
theorem dX12_writes_364 : decode cX12_writes 364 = .ok (.aload_n 0, 1) := by decide +kernel
theorem dX12_writes_365 : decode cX12_writes 365 = .ok (.iload_n 3, 1) := by decide +kernel
theorem dX12_writes_366 : decode cX12_writes 366 = .ok (.iload_n 2, 1) := by decide +kernel
theorem dX12_writes_367 : decode cX12_writes 367 = .ok (.lload 5, 2) := by decide +kernel
theorem dX12_writes_369 : decode cX12_writes 369 = .ok (.invokevirtual 207, 3) := by decide +kernel
theorem dX12_writes_372 : decode cX12_writes 372 = .ok (.ireturn, 1) := by decide +kernel
theorem dX12_blinds_0 : decode cX12_blinds 0 = .ok (.iload_n 1, 1) := by decide +kernel
theorem dX12_blinds_1 : decode cX12_blinds 1 = .ok (.invokestatic 193, 3) := by decide +kernel
theorem dX12_blinds_4 : decode cX12_blinds 4 = .ok (.ifCond .ne 5, 3) := by decide +kernel
theorem dX12_blinds_7 : decode cX12_blinds 7 = .ok (.iconst (-1), 1) := by decide +kernel
theorem dX12_blinds_8 : decode cX12_blinds 8 = .ok (.ireturn, 1) := by decide +kernel
theorem dX12_blinds_9 : decode cX12_blinds 9 = .ok (.aload_n 0, 1) := by decide +kernel
theorem dX12_blinds_10 : decode cX12_blinds 10 = .ok (.getfield 51, 3) := by decide +kernel
theorem dX12_blinds_13 : decode cX12_blinds 13 = .ok (.iload_n 1, 1) := by decide +kernel
theorem dX12_blinds_14 : decode cX12_blinds 14 = .ok (.iaload, 1) := by decide +kernel
theorem dX12_blinds_15 : decode cX12_blinds 15 = .ok (.bipush (-9), 2) := by decide +kernel
theorem dX12_blinds_17 : decode cX12_blinds 17 = .ok (.if_icmp .ne 7, 3) := by decide +kernel
theorem dX12_blinds_20 : decode cX12_blinds 20 = .ok (.iconst 0, 1) := by decide +kernel
theorem dX12_blinds_21 : decode cX12_blinds 21 = .ok (.goto 4, 3) := by decide +kernel
theorem dX12_blinds_24 : decode cX12_blinds 24 = .ok (.iconst 1, 1) := by decide +kernel
theorem dX12_blinds_25 : decode cX12_blinds 25 = .ok (.istore_n 2, 1) := by decide +kernel
theorem dX12_blinds_26 : decode cX12_blinds 26 = .ok (.aload_n 0, 1) := by decide +kernel
theorem dX12_blinds_27 : decode cX12_blinds 27 = .ok (.getfield 51, 3) := by decide +kernel
theorem dX12_blinds_30 : decode cX12_blinds 30 = .ok (.iload_n 1, 1) := by decide +kernel
theorem dX12_blinds_31 : decode cX12_blinds 31 = .ok (.bipush (-9), 2) := by decide +kernel
theorem dX12_blinds_33 : decode cX12_blinds 33 = .ok (.iastore, 1) := by decide +kernel
theorem dX12_blinds_34 : decode cX12_blinds 34 = .ok (.iload_n 2, 1) := by decide +kernel
theorem dX12_blinds_35 : decode cX12_blinds 35 = .ok (.ireturn, 1) := by decide +kernel
theorem dX12_sends_0 : decode cX12_sends 0 = .ok (.aload_n 0, 1) := by decide +kernel
theorem dX12_sends_1 : decode cX12_sends 1 = .ok (.iload_n 1, 1) := by decide +kernel
theorem dX12_sends_2 : decode cX12_sends 2 = .ok (.invokevirtual 123, 3) := by decide +kernel
theorem dX12_sends_5 : decode cX12_sends 5 = .ok (.ifCond .eq 24, 3) := by decide +kernel
theorem dX12_sends_8 : decode cX12_sends 8 = .ok (.aload_n 0, 1) := by decide +kernel
theorem dX12_sends_9 : decode cX12_sends 9 = .ok (.iload_n 2, 1) := by decide +kernel
theorem dX12_sends_10 : decode cX12_sends 10 = .ok (.invokevirtual 123, 3) := by decide +kernel
theorem dX12_sends_13 : decode cX12_sends 13 = .ok (.ifCond .eq 16, 3) := by decide +kernel
theorem dX12_sends_16 : decode cX12_sends 16 = .ok (.iload_n 1, 1) := by decide +kernel
theorem dX12_sends_17 : decode cX12_sends 17 = .ok (.iload_n 2, 1) := by decide +kernel
theorem dX12_sends_18 : decode cX12_sends 18 = .ok (.if_icmp .eq 11, 3) := by decide +kernel
theorem dX12_sends_21 : decode cX12_sends 21 = .ok (.aload_n 0, 1) := by decide +kernel
theorem dX12_sends_22 : decode cX12_sends 22 = .ok (.iload_n 3, 1) := by decide +kernel
theorem dX12_sends_23 : decode cX12_sends 23 = .ok (.invokevirtual 119, 3) := by decide +kernel
theorem dX12_sends_26 : decode cX12_sends 26 = .ok (.ifCond .ne 5, 3) := by decide +kernel
theorem dX12_sends_29 : decode cX12_sends 29 = .ok (.iconst (-1), 1) := by decide +kernel
theorem dX12_sends_30 : decode cX12_sends 30 = .ok (.ireturn, 1) := by decide +kernel
theorem dX12_sends_31 : decode cX12_sends 31 = .ok (.iload_n 3, 1) := by decide +kernel
theorem dX12_sends_32 : decode cX12_sends 32 = .ok (.iload_n 1, 1) := by decide +kernel
theorem dX12_sends_33 : decode cX12_sends 33 = .ok (.invokestatic 196, 3) := by decide +kernel
theorem dX12_sends_36 : decode cX12_sends 36 = .ok (.istore 4, 2) := by decide +kernel
theorem dX12_sends_38 : decode cX12_sends 38 = .ok (.iload_n 3, 1) := by decide +kernel
theorem dX12_sends_39 : decode cX12_sends 39 = .ok (.iload_n 2, 1) := by decide +kernel
theorem dX12_sends_40 : decode cX12_sends 40 = .ok (.invokestatic 196, 3) := by decide +kernel
theorem dX12_sends_43 : decode cX12_sends 43 = .ok (.istore 5, 2) := by decide +kernel
theorem dX12_sends_45 : decode cX12_sends 45 = .ok (.iconst 0, 1) := by decide +kernel
theorem dX12_sends_46 : decode cX12_sends 46 = .ok (.istore 6, 2) := by decide +kernel
theorem dX12_sends_48 : decode cX12_sends 48 = .ok (.iload 6, 2) := by decide +kernel
theorem dX12_sends_50 : decode cX12_sends 50 = .ok (.aload_n 0, 1) := by decide +kernel
theorem dX12_sends_51 : decode cX12_sends 51 = .ok (.getfield 91, 3) := by decide +kernel
theorem dX12_sends_54 : decode cX12_sends 54 = .ok (.if_icmp .ge 166, 3) := by decide +kernel
theorem dX12_sends_57 : decode cX12_sends 57 = .ok (.iconst 1, 1) := by decide +kernel
theorem dX12_sends_58 : decode cX12_sends 58 = .ok (.istore 7, 2) := by decide +kernel
theorem dX12_sends_60 : decode cX12_sends 60 = .ok (.iload 7, 2) := by decide +kernel
theorem dX12_sends_62 : decode cX12_sends 62 = .ok (.aload_n 0, 1) := by decide +kernel
theorem dX12_sends_63 : decode cX12_sends 63 = .ok (.getfield 42, 3) := by decide +kernel
theorem dX12_sends_66 : decode cX12_sends 66 = .ok (.iconst 4, 1) := by decide +kernel
theorem dX12_sends_67 : decode cX12_sends 67 = .ok (.iload_n 3, 1) := by decide +kernel
theorem dX12_sends_68 : decode cX12_sends 68 = .ok (.imul, 1) := by decide +kernel
theorem dX12_sends_69 : decode cX12_sends 69 = .ok (.iload 6, 2) := by decide +kernel
theorem dX12_sends_71 : decode cX12_sends 71 = .ok (.iadd, 1) := by decide +kernel
theorem dX12_sends_72 : decode cX12_sends 72 = .ok (.iaload, 1) := by decide +kernel
theorem dX12_sends_73 : decode cX12_sends 73 = .ok (.if_icmp .gt 141, 3) := by decide +kernel
theorem dX12_sends_76 : decode cX12_sends 76 = .ok (.iload_n 3, 1) := by decide +kernel
theorem dX12_sends_77 : decode cX12_sends 77 = .ok (.iload 6, 2) := by decide +kernel
theorem dX12_sends_79 : decode cX12_sends 79 = .ok (.iload 7, 2) := by decide +kernel
theorem dX12_sends_81 : decode cX12_sends 81 = .ok (.invokestatic 199, 3) := by decide +kernel
theorem dX12_sends_84 : decode cX12_sends 84 = .ok (.istore 8, 2) := by decide +kernel
theorem dX12_sends_86 : decode cX12_sends 86 = .ok (.aload_n 0, 1) := by decide +kernel
theorem dX12_sends_87 : decode cX12_sends 87 = .ok (.getfield 39, 3) := by decide +kernel
theorem dX12_sends_90 : decode cX12_sends 90 = .ok (.iload 8, 2) := by decide +kernel
theorem dX12_sends_92 : decode cX12_sends 92 = .ok (.iaload, 1) := by decide +kernel
theorem dX12_sends_93 : decode cX12_sends 93 = .ok (.iload_n 1, 1) := by decide +kernel
theorem dX12_sends_94 : decode cX12_sends 94 = .ok (.invokestatic 183, 3) := by decide +kernel
theorem dX12_sends_97 : decode cX12_sends 97 = .ok (.istore 9, 2) := by decide +kernel
theorem dX12_sends_99 : decode cX12_sends 99 = .ok (.aload_n 0, 1) := by decide +kernel
theorem dX12_sends_100 : decode cX12_sends 100 = .ok (.getfield 39, 3) := by decide +kernel
theorem dX12_sends_103 : decode cX12_sends 103 = .ok (.iload 8, 2) := by decide +kernel
theorem dX12_sends_105 : decode cX12_sends 105 = .ok (.iaload, 1) := by decide +kernel
theorem dX12_sends_106 : decode cX12_sends 106 = .ok (.iload_n 2, 1) := by decide +kernel
theorem dX12_sends_107 : decode cX12_sends 107 = .ok (.invokestatic 183, 3) := by decide +kernel
theorem dX12_sends_110 : decode cX12_sends 110 = .ok (.istore 10, 2) := by decide +kernel
theorem dX12_sends_112 : decode cX12_sends 112 = .ok (.iload 9, 2) := by decide +kernel
theorem dX12_sends_114 : decode cX12_sends 114 = .ok (.ifCond .eq 8, 3) := by decide +kernel
theorem dX12_sends_117 : decode cX12_sends 117 = .ok (.iload 10, 2) := by decide +kernel
theorem dX12_sends_119 : decode cX12_sends 119 = .ok (.ifCond .ne 43, 3) := by decide +kernel
theorem dX12_sends_122 : decode cX12_sends 122 = .ok (.iload 10, 2) := by decide +kernel
theorem dX12_sends_124 : decode cX12_sends 124 = .ok (.ifCond .eq 18, 3) := by decide +kernel
theorem dX12_sends_127 : decode cX12_sends 127 = .ok (.aload_n 0, 1) := by decide +kernel
theorem dX12_sends_128 : decode cX12_sends 128 = .ok (.getfield 45, 3) := by decide +kernel
theorem dX12_sends_131 : decode cX12_sends 131 = .ok (.iload 4, 2) := by decide +kernel
theorem dX12_sends_133 : decode cX12_sends 133 = .ok (.iload 6, 2) := by decide +kernel
theorem dX12_sends_135 : decode cX12_sends 135 = .ok (.iadd, 1) := by decide +kernel
theorem dX12_sends_136 : decode cX12_sends 136 = .ok (.iaload, 1) := by decide +kernel
theorem dX12_sends_137 : decode cX12_sends 137 = .ok (.iload 7, 2) := by decide +kernel
theorem dX12_sends_139 : decode cX12_sends 139 = .ok (.if_icmp .lt 23, 3) := by decide +kernel
theorem dX12_sends_142 : decode cX12_sends 142 = .ok (.iload 9, 2) := by decide +kernel
theorem dX12_sends_144 : decode cX12_sends 144 = .ok (.ifCond .eq 22, 3) := by decide +kernel
theorem dX12_sends_147 : decode cX12_sends 147 = .ok (.aload_n 0, 1) := by decide +kernel
theorem dX12_sends_148 : decode cX12_sends 148 = .ok (.getfield 45, 3) := by decide +kernel
theorem dX12_sends_151 : decode cX12_sends 151 = .ok (.iload 5, 2) := by decide +kernel
theorem dX12_sends_153 : decode cX12_sends 153 = .ok (.iload 6, 2) := by decide +kernel
theorem dX12_sends_155 : decode cX12_sends 155 = .ok (.iadd, 1) := by decide +kernel
theorem dX12_sends_156 : decode cX12_sends 156 = .ok (.iaload, 1) := by decide +kernel
theorem dX12_sends_157 : decode cX12_sends 157 = .ok (.iload 7, 2) := by decide +kernel
theorem dX12_sends_159 : decode cX12_sends 159 = .ok (.if_icmp .ge 7, 3) := by decide +kernel
theorem dX12_sends_162 : decode cX12_sends 162 = .ok (.iconst 1, 1) := by decide +kernel
theorem dX12_sends_163 : decode cX12_sends 163 = .ok (.goto 4, 3) := by decide +kernel
theorem dX12_sends_166 : decode cX12_sends 166 = .ok (.iconst 0, 1) := by decide +kernel
theorem dX12_sends_167 : decode cX12_sends 167 = .ok (.istore 11, 2) := by decide +kernel
theorem dX12_sends_169 : decode cX12_sends 169 = .ok (.aload_n 0, 1) := by decide +kernel
theorem dX12_sends_170 : decode cX12_sends 170 = .ok (.getfield 39, 3) := by decide +kernel
theorem dX12_sends_173 : decode cX12_sends 173 = .ok (.iload 8, 2) := by decide +kernel
theorem dX12_sends_175 : decode cX12_sends 175 = .ok (.iload 11, 2) := by decide +kernel
theorem dX12_sends_177 : decode cX12_sends 177 = .ok (.ifCond .eq 17, 3) := by decide +kernel
theorem dX12_sends_180 : decode cX12_sends 180 = .ok (.aload_n 0, 1) := by decide +kernel
theorem dX12_sends_181 : decode cX12_sends 181 = .ok (.getfield 39, 3) := by decide +kernel
theorem dX12_sends_184 : decode cX12_sends 184 = .ok (.iload 8, 2) := by decide +kernel
theorem dX12_sends_186 : decode cX12_sends 186 = .ok (.iaload, 1) := by decide +kernel
theorem dX12_sends_187 : decode cX12_sends 187 = .ok (.iconst 1, 1) := by decide +kernel
theorem dX12_sends_188 : decode cX12_sends 188 = .ok (.iload_n 2, 1) := by decide +kernel
theorem dX12_sends_189 : decode cX12_sends 189 = .ok (.ishl, 1) := by decide +kernel
theorem dX12_sends_190 : decode cX12_sends 190 = .ok (.ior, 1) := by decide +kernel
theorem dX12_sends_191 : decode cX12_sends 191 = .ok (.goto 16, 3) := by decide +kernel
theorem dX12_sends_194 : decode cX12_sends 194 = .ok (.aload_n 0, 1) := by decide +kernel
theorem dX12_sends_195 : decode cX12_sends 195 = .ok (.getfield 39, 3) := by decide +kernel
theorem dX12_sends_198 : decode cX12_sends 198 = .ok (.iload 8, 2) := by decide +kernel
theorem dX12_sends_200 : decode cX12_sends 200 = .ok (.iaload, 1) := by decide +kernel
theorem dX12_sends_201 : decode cX12_sends 201 = .ok (.iconst 1, 1) := by decide +kernel
theorem dX12_sends_202 : decode cX12_sends 202 = .ok (.iload_n 2, 1) := by decide +kernel
theorem dX12_sends_203 : decode cX12_sends 203 = .ok (.ishl, 1) := by decide +kernel
theorem dX12_sends_204 : decode cX12_sends 204 = .ok (.iconst (-1), 1) := by decide +kernel
theorem dX12_sends_205 : decode cX12_sends 205 = .ok (.ixor, 1) := by decide +kernel
theorem dX12_sends_206 : decode cX12_sends 206 = .ok (.iand, 1) := by decide +kernel
theorem dX12_sends_207 : decode cX12_sends 207 = .ok (.iastore, 1) := by decide +kernel
theorem dX12_sends_208 : decode cX12_sends 208 = .ok (.iinc 7 1, 3) := by decide +kernel
theorem dX12_sends_211 : decode cX12_sends 211 = .ok (.goto (-151), 3) := by decide +kernel
theorem dX12_sends_214 : decode cX12_sends 214 = .ok (.iinc 6 1, 3) := by decide +kernel
theorem dX12_sends_217 : decode cX12_sends 217 = .ok (.goto (-169), 3) := by decide +kernel
theorem dX12_sends_220 : decode cX12_sends 220 = .ok (.iconst 0, 1) := by decide +kernel
theorem dX12_sends_221 : decode cX12_sends 221 = .ok (.istore 6, 2) := by decide +kernel
theorem dX12_sends_223 : decode cX12_sends 223 = .ok (.iload 6, 2) := by decide +kernel
theorem dX12_sends_225 : decode cX12_sends 225 = .ok (.iconst 4, 1) := by decide +kernel
theorem dX12_sends_226 : decode cX12_sends 226 = .ok (.if_icmp .ge 65, 3) := by decide +kernel
theorem dX12_sends_229 : decode cX12_sends 229 = .ok (.aload_n 0, 1) := by decide +kernel
theorem dX12_sends_230 : decode cX12_sends 230 = .ok (.getfield 45, 3) := by decide +kernel
theorem dX12_sends_233 : decode cX12_sends 233 = .ok (.iload 5, 2) := by decide +kernel
theorem dX12_sends_235 : decode cX12_sends 235 = .ok (.iload 6, 2) := by decide +kernel
theorem dX12_sends_237 : decode cX12_sends 237 = .ok (.iadd, 1) := by decide +kernel
theorem dX12_sends_238 : decode cX12_sends 238 = .ok (.aload_n 0, 1) := by decide +kernel
theorem dX12_sends_239 : decode cX12_sends 239 = .ok (.getfield 45, 3) := by decide +kernel
theorem dX12_sends_242 : decode cX12_sends 242 = .ok (.iload 4, 2) := by decide +kernel
theorem dX12_sends_244 : decode cX12_sends 244 = .ok (.iload 6, 2) := by decide +kernel
theorem dX12_sends_246 : decode cX12_sends 246 = .ok (.iadd, 1) := by decide +kernel
theorem dX12_sends_247 : decode cX12_sends 247 = .ok (.iaload, 1) := by decide +kernel
theorem dX12_sends_248 : decode cX12_sends 248 = .ok (.aload_n 0, 1) := by decide +kernel
theorem dX12_sends_249 : decode cX12_sends 249 = .ok (.getfield 45, 3) := by decide +kernel
theorem dX12_sends_252 : decode cX12_sends 252 = .ok (.iload 5, 2) := by decide +kernel
theorem dX12_sends_254 : decode cX12_sends 254 = .ok (.iload 6, 2) := by decide +kernel
theorem dX12_sends_256 : decode cX12_sends 256 = .ok (.iadd, 1) := by decide +kernel
theorem dX12_sends_257 : decode cX12_sends 257 = .ok (.iaload, 1) := by decide +kernel
theorem dX12_sends_258 : decode cX12_sends 258 = .ok (.if_icmp .le 16, 3) := by decide +kernel
theorem dX12_sends_261 : decode cX12_sends 261 = .ok (.aload_n 0, 1) := by decide +kernel
theorem dX12_sends_262 : decode cX12_sends 262 = .ok (.getfield 45, 3) := by decide +kernel
theorem dX12_sends_265 : decode cX12_sends 265 = .ok (.iload 4, 2) := by decide +kernel
theorem dX12_sends_267 : decode cX12_sends 267 = .ok (.iload 6, 2) := by decide +kernel
theorem dX12_sends_269 : decode cX12_sends 269 = .ok (.iadd, 1) := by decide +kernel
theorem dX12_sends_270 : decode cX12_sends 270 = .ok (.iaload, 1) := by decide +kernel
theorem dX12_sends_271 : decode cX12_sends 271 = .ok (.goto 13, 3) := by decide +kernel
theorem dX12_sends_274 : decode cX12_sends 274 = .ok (.aload_n 0, 1) := by decide +kernel
theorem dX12_sends_275 : decode cX12_sends 275 = .ok (.getfield 45, 3) := by decide +kernel
theorem dX12_sends_278 : decode cX12_sends 278 = .ok (.iload 5, 2) := by decide +kernel
theorem dX12_sends_280 : decode cX12_sends 280 = .ok (.iload 6, 2) := by decide +kernel
theorem dX12_sends_282 : decode cX12_sends 282 = .ok (.iadd, 1) := by decide +kernel
theorem dX12_sends_283 : decode cX12_sends 283 = .ok (.iaload, 1) := by decide +kernel
theorem dX12_sends_284 : decode cX12_sends 284 = .ok (.iastore, 1) := by decide +kernel
theorem dX12_sends_285 : decode cX12_sends 285 = .ok (.iinc 6 1, 3) := by decide +kernel
theorem dX12_sends_288 : decode cX12_sends 288 = .ok (.goto (-65), 3) := by decide +kernel
theorem dX12_sends_291 : decode cX12_sends 291 = .ok (.aload_n 0, 1) := by decide +kernel
theorem dX12_sends_292 : decode cX12_sends 292 = .ok (.iload_n 2, 1) := by decide +kernel
