theorem d_T_layParts_141 : decode b_T_layParts 141 = .ok (.goto (-113), 3) := by decide +kernel
theorem d_T_layParts_144 : decode b_T_layParts 144 = .ok (.return_, 1) := by decide +kernel
theorem d_T_layRow_0 : decode b_T_layRow 0 = .ok (.iload_n 1, 1) := by decide +kernel
theorem d_T_layRow_1 : decode b_T_layRow 1 = .ok (.istore_n 3, 1) := by decide +kernel
theorem d_T_layRow_2 : decode b_T_layRow 2 = .ok (.bipush 8, 2) := by decide +kernel
theorem d_T_layRow_4 : decode b_T_layRow 4 = .ok (.aload_n 0, 1) := by decide +kernel
theorem d_T_layRow_5 : decode b_T_layRow 5 = .ok (.getfield 28, 3) := by decide +kernel
theorem d_T_layRow_8 : decode b_T_layRow 8 = .ok (.iadd, 1) := by decide +kernel
theorem d_T_layRow_9 : decode b_T_layRow 9 = .ok (.iconst 1, 1) := by decide +kernel
theorem d_T_layRow_10 : decode b_T_layRow 10 = .ok (.isub, 1) := by decide +kernel
theorem d_T_layRow_11 : decode b_T_layRow 11 = .ok (.istore 4, 2) := by decide +kernel
theorem d_T_layRow_13 : decode b_T_layRow 13 = .ok (.iload 4, 2) := by decide +kernel
theorem d_T_layRow_15 : decode b_T_layRow 15 = .ok (.bipush 8, 2) := by decide +kernel
theorem d_T_layRow_17 : decode b_T_layRow 17 = .ok (.if_icmp .lt 37, 3) := by decide +kernel
theorem d_T_layRow_20 : decode b_T_layRow 20 = .ok (.aload_n 0, 1) := by decide +kernel
theorem d_T_layRow_21 : decode b_T_layRow 21 = .ok (.iload 4, 2) := by decide +kernel
theorem d_T_layRow_23 : decode b_T_layRow 23 = .ok (.invokevirtual 144, 3) := by decide +kernel
theorem d_T_layRow_26 : decode b_T_layRow 26 = .ok (.iconst 1, 1) := by decide +kernel
theorem d_T_layRow_27 : decode b_T_layRow 27 = .ok (.invokestatic 150, 3) := by decide +kernel
theorem d_T_layRow_30 : decode b_T_layRow 30 = .ok (.istore 5, 2) := by decide +kernel
theorem d_T_layRow_32 : decode b_T_layRow 32 = .ok (.aload_n 0, 1) := by decide +kernel
theorem d_T_layRow_33 : decode b_T_layRow 33 = .ok (.getfield 55, 3) := by decide +kernel
theorem d_T_layRow_36 : decode b_T_layRow 36 = .ok (.iload 4, 2) := by decide +kernel
theorem d_T_layRow_38 : decode b_T_layRow 38 = .ok (.iload_n 3, 1) := by decide +kernel
theorem d_T_layRow_39 : decode b_T_layRow 39 = .ok (.iload 5, 2) := by decide +kernel
theorem d_T_layRow_41 : decode b_T_layRow 41 = .ok (.irem, 1) := by decide +kernel
theorem d_T_layRow_42 : decode b_T_layRow 42 = .ok (.iastore, 1) := by decide +kernel
theorem d_T_layRow_43 : decode b_T_layRow 43 = .ok (.iload_n 3, 1) := by decide +kernel
theorem d_T_layRow_44 : decode b_T_layRow 44 = .ok (.iload 5, 2) := by decide +kernel
theorem d_T_layRow_46 : decode b_T_layRow 46 = .ok (.idiv, 1) := by decide +kernel
theorem d_T_layRow_47 : decode b_T_layRow 47 = .ok (.istore_n 3, 1) := by decide +kernel
theorem d_T_layRow_48 : decode b_T_layRow 48 = .ok (.iinc 4 (-1), 3) := by decide +kernel
theorem d_T_layRow_51 : decode b_T_layRow 51 = .ok (.goto (-38), 3) := by decide +kernel
theorem d_T_layRow_54 : decode b_T_layRow 54 = .ok (.aload_n 0, 1) := by decide +kernel
theorem d_T_layRow_55 : decode b_T_layRow 55 = .ok (.getfield 49, 3) := by decide +kernel
theorem d_T_layRow_58 : decode b_T_layRow 58 = .ok (.aload_n 0, 1) := by decide +kernel
theorem d_T_layRow_59 : decode b_T_layRow 59 = .ok (.getfield 24, 3) := by decide +kernel
theorem d_T_layRow_62 : decode b_T_layRow 62 = .ok (.iconst 0, 1) := by decide +kernel
theorem d_T_layRow_63 : decode b_T_layRow 63 = .ok (.iastore, 1) := by decide +kernel
theorem d_T_layRow_64 : decode b_T_layRow 64 = .ok (.bipush 8, 2) := by decide +kernel
theorem d_T_layRow_66 : decode b_T_layRow 66 = .ok (.istore 4, 2) := by decide +kernel
theorem d_T_layRow_68 : decode b_T_layRow 68 = .ok (.iload 4, 2) := by decide +kernel
theorem d_T_layRow_70 : decode b_T_layRow 70 = .ok (.bipush 8, 2) := by decide +kernel
theorem d_T_layRow_72 : decode b_T_layRow 72 = .ok (.aload_n 0, 1) := by decide +kernel
theorem d_T_layRow_73 : decode b_T_layRow 73 = .ok (.getfield 28, 3) := by decide +kernel
theorem d_T_layRow_76 : decode b_T_layRow 76 = .ok (.iadd, 1) := by decide +kernel
theorem d_T_layRow_77 : decode b_T_layRow 77 = .ok (.if_icmp .ge 22, 3) := by decide +kernel
theorem d_T_layRow_80 : decode b_T_layRow 80 = .ok (.aload_n 0, 1) := by decide +kernel
theorem d_T_layRow_81 : decode b_T_layRow 81 = .ok (.iload 4, 2) := by decide +kernel
theorem d_T_layRow_83 : decode b_T_layRow 83 = .ok (.aload_n 0, 1) := by decide +kernel
theorem d_T_layRow_84 : decode b_T_layRow 84 = .ok (.getfield 55, 3) := by decide +kernel
theorem d_T_layRow_87 : decode b_T_layRow 87 = .ok (.iload 4, 2) := by decide +kernel
theorem d_T_layRow_89 : decode b_T_layRow 89 = .ok (.iaload, 1) := by decide +kernel
theorem d_T_layRow_90 : decode b_T_layRow 90 = .ok (.invokevirtual 155, 3) := by decide +kernel
theorem d_T_layRow_93 : decode b_T_layRow 93 = .ok (.iinc 4 1, 3) := by decide +kernel
theorem d_T_layRow_96 : decode b_T_layRow 96 = .ok (.goto (-28), 3) := by decide +kernel
theorem d_T_layRow_99 : decode b_T_layRow 99 = .ok (.iconst 0, 1) := by decide +kernel
theorem d_T_layRow_100 : decode b_T_layRow 100 = .ok (.istore 4, 2) := by decide +kernel
theorem d_T_layRow_102 : decode b_T_layRow 102 = .ok (.iload 4, 2) := by decide +kernel
theorem d_T_layRow_104 : decode b_T_layRow 104 = .ok (.bipush 8, 2) := by decide +kernel
theorem d_T_layRow_106 : decode b_T_layRow 106 = .ok (.if_icmp .ge 39, 3) := by decide +kernel
theorem d_T_layRow_109 : decode b_T_layRow 109 = .ok (.aload_n 0, 1) := by decide +kernel
theorem d_T_layRow_110 : decode b_T_layRow 110 = .ok (.getfield 15, 3) := by decide +kernel
theorem d_T_layRow_113 : decode b_T_layRow 113 = .ok (.aload_n 0, 1) := by decide +kernel
theorem d_T_layRow_114 : decode b_T_layRow 114 = .ok (.getfield 24, 3) := by decide +kernel
theorem d_T_layRow_117 : decode b_T_layRow 117 = .ok (.iaload, 1) := by decide +kernel
theorem d_T_layRow_118 : decode b_T_layRow 118 = .ok (.iload 4, 2) := by decide +kernel
theorem d_T_layRow_120 : decode b_T_layRow 120 = .ok (.ishr, 1) := by decide +kernel
theorem d_T_layRow_121 : decode b_T_layRow 121 = .ok (.iconst 1, 1) := by decide +kernel
theorem d_T_layRow_122 : decode b_T_layRow 122 = .ok (.iand, 1) := by decide +kernel
theorem d_T_layRow_123 : decode b_T_layRow 123 = .ok (.ifCond .eq 16, 3) := by decide +kernel
theorem d_T_layRow_126 : decode b_T_layRow 126 = .ok (.aload_n 2, 1) := by decide +kernel
theorem d_T_layRow_127 : decode b_T_layRow 127 = .ok (.aload_n 0, 1) := by decide +kernel
theorem d_T_layRow_128 : decode b_T_layRow 128 = .ok (.getfield 49, 3) := by decide +kernel
theorem d_T_layRow_131 : decode b_T_layRow 131 = .ok (.iload 4, 2) := by decide +kernel
theorem d_T_layRow_133 : decode b_T_layRow 133 = .ok (.iaload, 1) := by decide +kernel
theorem d_T_layRow_134 : decode b_T_layRow 134 = .ok (.iload 4, 2) := by decide +kernel
theorem d_T_layRow_136 : decode b_T_layRow 136 = .ok (.invokestatic 147, 3) := by decide +kernel
theorem d_T_layRow_139 : decode b_T_layRow 139 = .ok (.iinc 4 1, 3) := by decide +kernel
theorem d_T_layRow_142 : decode b_T_layRow 142 = .ok (.goto (-40), 3) := by decide +kernel
theorem d_T_layRow_145 : decode b_T_layRow 145 = .ok (.return_, 1) := by decide +kernel
theorem d_T_leastThing_0 : decode b_T_leastThing 0 = .ok (.aload_n 0, 1) := by decide +kernel
theorem d_T_leastThing_1 : decode b_T_leastThing 1 = .ok (.iload_n 1, 1) := by decide +kernel
theorem d_T_leastThing_2 : decode b_T_leastThing 2 = .ok (.invokevirtual 77, 3) := by decide +kernel
theorem d_T_leastThing_5 : decode b_T_leastThing 5 = .ok (.iconst 1, 1) := by decide +kernel
theorem d_T_leastThing_6 : decode b_T_leastThing 6 = .ok (.isub, 1) := by decide +kernel
theorem d_T_leastThing_7 : decode b_T_leastThing 7 = .ok (.invokestatic 89, 3) := by decide +kernel
theorem d_T_leastThing_10 : decode b_T_leastThing 10 = .ok (.bipush 7, 2) := by decide +kernel
theorem d_T_leastThing_12 : decode b_T_leastThing 12 = .ok (.iand, 1) := by decide +kernel
theorem d_T_leastThing_13 : decode b_T_leastThing 13 = .ok (.ireturn, 1) := by decide +kernel
theorem d_T_wayOf_0 : decode b_T_wayOf 0 = .ok (.aload_n 0, 1) := by decide +kernel
theorem d_T_wayOf_1 : decode b_T_wayOf 1 = .ok (.getfield 18, 3) := by decide +kernel
theorem d_T_wayOf_4 : decode b_T_wayOf 4 = .ok (.iload_n 1, 1) := by decide +kernel
theorem d_T_wayOf_5 : decode b_T_wayOf 5 = .ok (.iaload, 1) := by decide +kernel
theorem d_T_wayOf_6 : decode b_T_wayOf 6 = .ok (.istore_n 3, 1) := by decide +kernel
theorem d_T_wayOf_7 : decode b_T_wayOf 7 = .ok (.iconst 0, 1) := by decide +kernel
theorem d_T_wayOf_8 : decode b_T_wayOf 8 = .ok (.istore 4, 2) := by decide +kernel
theorem d_T_wayOf_10 : decode b_T_wayOf 10 = .ok (.iload 4, 2) := by decide +kernel
theorem d_T_wayOf_12 : decode b_T_wayOf 12 = .ok (.iload_n 3, 1) := by decide +kernel
theorem d_T_wayOf_13 : decode b_T_wayOf 13 = .ok (.if_icmp .ge 33, 3) := by decide +kernel
theorem d_T_wayOf_16 : decode b_T_wayOf 16 = .ok (.aload_n 0, 1) := by decide +kernel
theorem d_T_wayOf_17 : decode b_T_wayOf 17 = .ok (.iload_n 1, 1) := by decide +kernel
theorem d_T_wayOf_18 : decode b_T_wayOf 18 = .ok (.iload 4, 2) := by decide +kernel
theorem d_T_wayOf_20 : decode b_T_wayOf 20 = .ok (.invokevirtual 73, 3) := by decide +kernel
theorem d_T_wayOf_23 : decode b_T_wayOf 23 = .ok (.istore 5, 2) := by decide +kernel
theorem d_T_wayOf_25 : decode b_T_wayOf 25 = .ok (.aload_n 0, 1) := by decide +kernel
theorem d_T_wayOf_26 : decode b_T_wayOf 26 = .ok (.getfield 49, 3) := by decide +kernel
theorem d_T_wayOf_29 : decode b_T_wayOf 29 = .ok (.iload 5, 2) := by decide +kernel
theorem d_T_wayOf_31 : decode b_T_wayOf 31 = .ok (.aload_n 2, 1) := by decide +kernel
theorem d_T_wayOf_32 : decode b_T_wayOf 32 = .ok (.aload_n 0, 1) := by decide +kernel
theorem d_T_wayOf_33 : decode b_T_wayOf 33 = .ok (.iload 5, 2) := by decide +kernel
theorem d_T_wayOf_35 : decode b_T_wayOf 35 = .ok (.invokevirtual 168, 3) := by decide +kernel
theorem d_T_wayOf_38 : decode b_T_wayOf 38 = .ok (.iaload, 1) := by decide +kernel
theorem d_T_wayOf_39 : decode b_T_wayOf 39 = .ok (.iastore, 1) := by decide +kernel
theorem d_T_wayOf_40 : decode b_T_wayOf 40 = .ok (.iinc 4 1, 3) := by decide +kernel
theorem d_T_wayOf_43 : decode b_T_wayOf 43 = .ok (.goto (-33), 3) := by decide +kernel
theorem d_T_wayOf_46 : decode b_T_wayOf 46 = .ok (.aload_n 0, 1) := by decide +kernel
theorem d_T_wayOf_47 : decode b_T_wayOf 47 = .ok (.getfield 11, 3) := by decide +kernel
theorem d_T_wayOf_50 : decode b_T_wayOf 50 = .ok (.iload_n 1, 1) := by decide +kernel
theorem d_T_wayOf_51 : decode b_T_wayOf 51 = .ok (.iaload, 1) := by decide +kernel
theorem d_T_wayOf_52 : decode b_T_wayOf 52 = .ok (.iconst 1, 1) := by decide +kernel
theorem d_T_wayOf_53 : decode b_T_wayOf 53 = .ok (.if_icmp .ne 36, 3) := by decide +kernel
theorem d_T_wayOf_56 : decode b_T_wayOf 56 = .ok (.aload_n 0, 1) := by decide +kernel
theorem d_T_wayOf_57 : decode b_T_wayOf 57 = .ok (.getfield 49, 3) := by decide +kernel
theorem d_T_wayOf_60 : decode b_T_wayOf 60 = .ok (.aload_n 0, 1) := by decide +kernel
theorem d_T_wayOf_61 : decode b_T_wayOf 61 = .ok (.iload_n 1, 1) := by decide +kernel
theorem d_T_wayOf_62 : decode b_T_wayOf 62 = .ok (.iconst 0, 1) := by decide +kernel
theorem d_T_wayOf_63 : decode b_T_wayOf 63 = .ok (.invokevirtual 73, 3) := by decide +kernel
theorem d_T_wayOf_66 : decode b_T_wayOf 66 = .ok (.iaload, 1) := by decide +kernel
theorem d_T_wayOf_67 : decode b_T_wayOf 67 = .ok (.aload_n 0, 1) := by decide +kernel
theorem d_T_wayOf_68 : decode b_T_wayOf 68 = .ok (.getfield 49, 3) := by decide +kernel
theorem d_T_wayOf_71 : decode b_T_wayOf 71 = .ok (.aload_n 0, 1) := by decide +kernel
theorem d_T_wayOf_72 : decode b_T_wayOf 72 = .ok (.iload_n 1, 1) := by decide +kernel
theorem d_T_wayOf_73 : decode b_T_wayOf 73 = .ok (.iload_n 3, 1) := by decide +kernel
theorem d_T_wayOf_74 : decode b_T_wayOf 74 = .ok (.iconst 1, 1) := by decide +kernel
theorem d_T_wayOf_75 : decode b_T_wayOf 75 = .ok (.isub, 1) := by decide +kernel
theorem d_T_wayOf_76 : decode b_T_wayOf 76 = .ok (.invokevirtual 73, 3) := by decide +kernel
theorem d_T_wayOf_79 : decode b_T_wayOf 79 = .ok (.iaload, 1) := by decide +kernel
theorem d_T_wayOf_80 : decode b_T_wayOf 80 = .ok (.if_icmp .ge 7, 3) := by decide +kernel
theorem d_T_wayOf_83 : decode b_T_wayOf 83 = .ok (.iconst 0, 1) := by decide +kernel
theorem d_T_wayOf_84 : decode b_T_wayOf 84 = .ok (.goto 4, 3) := by decide +kernel
theorem d_T_wayOf_87 : decode b_T_wayOf 87 = .ok (.iconst 1, 1) := by decide +kernel
theorem d_T_wayOf_88 : decode b_T_wayOf 88 = .ok (.ireturn, 1) := by decide +kernel
theorem d_T_wayOf_89 : decode b_T_wayOf 89 = .ok (.iconst 0, 1) := by decide +kernel
theorem d_T_wayOf_90 : decode b_T_wayOf 90 = .ok (.istore 4, 2) := by decide +kernel
theorem d_T_wayOf_92 : decode b_T_wayOf 92 = .ok (.iconst 0, 1) := by decide +kernel
theorem d_T_wayOf_93 : decode b_T_wayOf 93 = .ok (.istore 5, 2) := by decide +kernel
theorem d_T_wayOf_95 : decode b_T_wayOf 95 = .ok (.iload 5, 2) := by decide +kernel
theorem d_T_wayOf_97 : decode b_T_wayOf 97 = .ok (.iload_n 3, 1) := by decide +kernel
theorem d_T_wayOf_98 : decode b_T_wayOf 98 = .ok (.if_icmp .ge 90, 3) := by decide +kernel
theorem d_T_wayOf_101 : decode b_T_wayOf 101 = .ok (.iconst 0, 1) := by decide +kernel
theorem d_T_wayOf_102 : decode b_T_wayOf 102 = .ok (.istore 6, 2) := by decide +kernel
theorem d_T_wayOf_104 : decode b_T_wayOf 104 = .ok (.iconst 0, 1) := by decide +kernel
theorem d_T_wayOf_105 : decode b_T_wayOf 105 = .ok (.istore 7, 2) := by decide +kernel
theorem d_T_wayOf_107 : decode b_T_wayOf 107 = .ok (.iconst 0, 1) := by decide +kernel
theorem d_T_wayOf_108 : decode b_T_wayOf 108 = .ok (.istore 8, 2) := by decide +kernel
theorem d_T_wayOf_110 : decode b_T_wayOf 110 = .ok (.iload 8, 2) := by decide +kernel
theorem d_T_wayOf_112 : decode b_T_wayOf 112 = .ok (.iload_n 3, 1) := by decide +kernel
theorem d_T_wayOf_113 : decode b_T_wayOf 113 = .ok (.if_icmp .ge 52, 3) := by decide +kernel
theorem d_T_wayOf_116 : decode b_T_wayOf 116 = .ok (.aload_n 0, 1) := by decide +kernel
theorem d_T_wayOf_117 : decode b_T_wayOf 117 = .ok (.getfield 49, 3) := by decide +kernel
theorem d_T_wayOf_120 : decode b_T_wayOf 120 = .ok (.aload_n 0, 1) := by decide +kernel
theorem d_T_wayOf_121 : decode b_T_wayOf 121 = .ok (.iload_n 1, 1) := by decide +kernel
theorem d_T_wayOf_122 : decode b_T_wayOf 122 = .ok (.iload 8, 2) := by decide +kernel
theorem d_T_wayOf_124 : decode b_T_wayOf 124 = .ok (.invokevirtual 73, 3) := by decide +kernel
theorem d_T_wayOf_127 : decode b_T_wayOf 127 = .ok (.iaload, 1) := by decide +kernel
theorem d_T_wayOf_128 : decode b_T_wayOf 128 = .ok (.aload_n 0, 1) := by decide +kernel
theorem d_T_wayOf_129 : decode b_T_wayOf 129 = .ok (.getfield 49, 3) := by decide +kernel
theorem d_T_wayOf_132 : decode b_T_wayOf 132 = .ok (.aload_n 0, 1) := by decide +kernel
theorem d_T_wayOf_133 : decode b_T_wayOf 133 = .ok (.iload_n 1, 1) := by decide +kernel
theorem d_T_wayOf_134 : decode b_T_wayOf 134 = .ok (.iload 5, 2) := by decide +kernel
theorem d_T_wayOf_136 : decode b_T_wayOf 136 = .ok (.invokevirtual 73, 3) := by decide +kernel
theorem d_T_wayOf_139 : decode b_T_wayOf 139 = .ok (.iaload, 1) := by decide +kernel
theorem d_T_wayOf_140 : decode b_T_wayOf 140 = .ok (.if_icmp .ge 9, 3) := by decide +kernel
theorem d_T_wayOf_143 : decode b_T_wayOf 143 = .ok (.iinc 6 1, 3) := by decide +kernel
theorem d_T_wayOf_146 : decode b_T_wayOf 146 = .ok (.goto 13, 3) := by decide +kernel
theorem d_T_wayOf_149 : decode b_T_wayOf 149 = .ok (.iload 8, 2) := by decide +kernel
theorem d_T_wayOf_151 : decode b_T_wayOf 151 = .ok (.iload 5, 2) := by decide +kernel
theorem d_T_wayOf_153 : decode b_T_wayOf 153 = .ok (.if_icmp .ge 6, 3) := by decide +kernel
theorem d_T_wayOf_156 : decode b_T_wayOf 156 = .ok (.iinc 7 1, 3) := by decide +kernel
theorem d_T_wayOf_159 : decode b_T_wayOf 159 = .ok (.iinc 8 1, 3) := by decide +kernel
theorem d_T_wayOf_162 : decode b_T_wayOf 162 = .ok (.goto (-52), 3) := by decide +kernel
theorem d_T_wayOf_165 : decode b_T_wayOf 165 = .ok (.iload 4, 2) := by decide +kernel
theorem d_T_wayOf_167 : decode b_T_wayOf 167 = .ok (.iload 7, 2) := by decide +kernel
theorem d_T_wayOf_169 : decode b_T_wayOf 169 = .ok (.iload_n 3, 1) := by decide +kernel
theorem d_T_wayOf_170 : decode b_T_wayOf 170 = .ok (.iconst 1, 1) := by decide +kernel
theorem d_T_wayOf_171 : decode b_T_wayOf 171 = .ok (.isub, 1) := by decide +kernel
theorem d_T_wayOf_172 : decode b_T_wayOf 172 = .ok (.iload 6, 2) := by decide +kernel
theorem d_T_wayOf_174 : decode b_T_wayOf 174 = .ok (.isub, 1) := by decide +kernel
theorem d_T_wayOf_175 : decode b_T_wayOf 175 = .ok (.invokestatic 158, 3) := by decide +kernel
theorem d_T_wayOf_178 : decode b_T_wayOf 178 = .ok (.imul, 1) := by decide +kernel
theorem d_T_wayOf_179 : decode b_T_wayOf 179 = .ok (.iadd, 1) := by decide +kernel
theorem d_T_wayOf_180 : decode b_T_wayOf 180 = .ok (.istore 4, 2) := by decide +kernel
theorem d_T_wayOf_182 : decode b_T_wayOf 182 = .ok (.iinc 5 1, 3) := by decide +kernel
theorem d_T_wayOf_185 : decode b_T_wayOf 185 = .ok (.goto (-90), 3) := by decide +kernel
theorem d_T_wayOf_188 : decode b_T_wayOf 188 = .ok (.iload 4, 2) := by decide +kernel
theorem d_T_wayOf_190 : decode b_T_wayOf 190 = .ok (.ireturn, 1) := by decide +kernel
theorem d_T_numberOf_0 : decode b_T_numberOf 0 = .ok (.iconst 0, 1) := by decide +kernel
theorem d_T_numberOf_1 : decode b_T_numberOf 1 = .ok (.istore_n 2, 1) := by decide +kernel
theorem d_T_numberOf_2 : decode b_T_numberOf 2 = .ok (.bipush 8, 2) := by decide +kernel
theorem d_T_numberOf_4 : decode b_T_numberOf 4 = .ok (.istore_n 3, 1) := by decide +kernel
theorem d_T_numberOf_5 : decode b_T_numberOf 5 = .ok (.iload_n 3, 1) := by decide +kernel
theorem d_T_numberOf_6 : decode b_T_numberOf 6 = .ok (.bipush 8, 2) := by decide +kernel
theorem d_T_numberOf_8 : decode b_T_numberOf 8 = .ok (.aload_n 0, 1) := by decide +kernel
theorem d_T_numberOf_9 : decode b_T_numberOf 9 = .ok (.getfield 28, 3) := by decide +kernel
theorem d_T_numberOf_12 : decode b_T_numberOf 12 = .ok (.iadd, 1) := by decide +kernel
theorem d_T_numberOf_13 : decode b_T_numberOf 13 = .ok (.if_icmp .ge 24, 3) := by decide +kernel
theorem d_T_numberOf_16 : decode b_T_numberOf 16 = .ok (.iload_n 2, 1) := by decide +kernel
theorem d_T_numberOf_17 : decode b_T_numberOf 17 = .ok (.aload_n 0, 1) := by decide +kernel
theorem d_T_numberOf_18 : decode b_T_numberOf 18 = .ok (.iload_n 3, 1) := by decide +kernel
theorem d_T_numberOf_19 : decode b_T_numberOf 19 = .ok (.invokevirtual 144, 3) := by decide +kernel
theorem d_T_numberOf_22 : decode b_T_numberOf 22 = .ok (.imul, 1) := by decide +kernel
theorem d_T_numberOf_23 : decode b_T_numberOf 23 = .ok (.aload_n 0, 1) := by decide +kernel
theorem d_T_numberOf_24 : decode b_T_numberOf 24 = .ok (.iload_n 3, 1) := by decide +kernel
theorem d_T_numberOf_25 : decode b_T_numberOf 25 = .ok (.aload_n 1, 1) := by decide +kernel
theorem d_T_numberOf_26 : decode b_T_numberOf 26 = .ok (.invokevirtual 164, 3) := by decide +kernel
theorem d_T_numberOf_29 : decode b_T_numberOf 29 = .ok (.iadd, 1) := by decide +kernel
theorem d_T_numberOf_30 : decode b_T_numberOf 30 = .ok (.istore_n 2, 1) := by decide +kernel
theorem d_T_numberOf_31 : decode b_T_numberOf 31 = .ok (.iinc 3 1, 3) := by decide +kernel
theorem d_T_numberOf_34 : decode b_T_numberOf 34 = .ok (.goto (-29), 3) := by decide +kernel
theorem d_T_numberOf_37 : decode b_T_numberOf 37 = .ok (.iload_n 2, 1) := by decide +kernel
theorem d_T_numberOf_38 : decode b_T_numberOf 38 = .ok (.ireturn, 1) := by decide +kernel
theorem d_T_besideIn_0 : decode b_T_besideIn 0 = .ok (.iconst 0, 1) := by decide +kernel
theorem d_T_besideIn_1 : decode b_T_besideIn 1 = .ok (.istore 4, 2) := by decide +kernel
theorem d_T_besideIn_3 : decode b_T_besideIn 3 = .ok (.iconst 0, 1) := by decide +kernel
theorem d_T_besideIn_4 : decode b_T_besideIn 4 = .ok (.istore 5, 2) := by decide +kernel
theorem d_T_besideIn_6 : decode b_T_besideIn 6 = .ok (.iconst 0, 1) := by decide +kernel
theorem d_T_besideIn_7 : decode b_T_besideIn 7 = .ok (.istore 6, 2) := by decide +kernel
theorem d_T_besideIn_9 : decode b_T_besideIn 9 = .ok (.iconst 0, 1) := by decide +kernel
theorem d_T_besideIn_10 : decode b_T_besideIn 10 = .ok (.istore 7, 2) := by decide +kernel
theorem d_T_besideIn_12 : decode b_T_besideIn 12 = .ok (.iload 7, 2) := by decide +kernel
theorem d_T_besideIn_14 : decode b_T_besideIn 14 = .ok (.aload_n 0, 1) := by decide +kernel
theorem d_T_besideIn_15 : decode b_T_besideIn 15 = .ok (.getfield 18, 3) := by decide +kernel
theorem d_T_besideIn_18 : decode b_T_besideIn 18 = .ok (.iload_n 1, 1) := by decide +kernel
theorem d_T_besideIn_19 : decode b_T_besideIn 19 = .ok (.iaload, 1) := by decide +kernel
theorem d_T_besideIn_20 : decode b_T_besideIn 20 = .ok (.if_icmp .ge 64, 3) := by decide +kernel
theorem d_T_besideIn_23 : decode b_T_besideIn 23 = .ok (.aload_n 0, 1) := by decide +kernel
theorem d_T_besideIn_24 : decode b_T_besideIn 24 = .ok (.getfield 15, 3) := by decide +kernel
theorem d_T_besideIn_27 : decode b_T_besideIn 27 = .ok (.aload_n 0, 1) := by decide +kernel
theorem d_T_besideIn_28 : decode b_T_besideIn 28 = .ok (.iload_n 1, 1) := by decide +kernel
theorem d_T_besideIn_29 : decode b_T_besideIn 29 = .ok (.iload 7, 2) := by decide +kernel
theorem d_T_besideIn_31 : decode b_T_besideIn 31 = .ok (.invokevirtual 73, 3) := by decide +kernel
theorem d_T_besideIn_34 : decode b_T_besideIn 34 = .ok (.iaload, 1) := by decide +kernel
theorem d_T_besideIn_35 : decode b_T_besideIn 35 = .ok (.istore 8, 2) := by decide +kernel
theorem d_T_besideIn_37 : decode b_T_besideIn 37 = .ok (.iload 8, 2) := by decide +kernel
theorem d_T_besideIn_39 : decode b_T_besideIn 39 = .ok (.iload_n 2, 1) := by decide +kernel
theorem d_T_besideIn_40 : decode b_T_besideIn 40 = .ok (.iand, 1) := by decide +kernel
theorem d_T_besideIn_41 : decode b_T_besideIn 41 = .ok (.ifCond .eq 9, 3) := by decide +kernel
theorem d_T_besideIn_44 : decode b_T_besideIn 44 = .ok (.iconst 1, 1) := by decide +kernel
theorem d_T_besideIn_45 : decode b_T_besideIn 45 = .ok (.istore 6, 2) := by decide +kernel
theorem d_T_besideIn_47 : decode b_T_besideIn 47 = .ok (.goto 31, 3) := by decide +kernel
theorem d_T_besideIn_50 : decode b_T_besideIn 50 = .ok (.iload 6, 2) := by decide +kernel
theorem d_T_besideIn_52 : decode b_T_besideIn 52 = .ok (.ifCond .eq 16, 3) := by decide +kernel
theorem d_T_besideIn_55 : decode b_T_besideIn 55 = .ok (.iload 5, 2) := by decide +kernel
theorem d_T_besideIn_57 : decode b_T_besideIn 57 = .ok (.iload 8, 2) := by decide +kernel
theorem d_T_besideIn_59 : decode b_T_besideIn 59 = .ok (.invokestatic 89, 3) := by decide +kernel
theorem d_T_besideIn_62 : decode b_T_besideIn 62 = .ok (.iadd, 1) := by decide +kernel
theorem d_T_besideIn_63 : decode b_T_besideIn 63 = .ok (.istore 5, 2) := by decide +kernel
theorem d_T_besideIn_65 : decode b_T_besideIn 65 = .ok (.goto 13, 3) := by decide +kernel
theorem d_T_besideIn_68 : decode b_T_besideIn 68 = .ok (.iload 4, 2) := by decide +kernel
theorem d_T_besideIn_70 : decode b_T_besideIn 70 = .ok (.iload 8, 2) := by decide +kernel
theorem d_T_besideIn_72 : decode b_T_besideIn 72 = .ok (.invokestatic 89, 3) := by decide +kernel
theorem d_T_besideIn_75 : decode b_T_besideIn 75 = .ok (.iadd, 1) := by decide +kernel
theorem d_T_besideIn_76 : decode b_T_besideIn 76 = .ok (.istore 4, 2) := by decide +kernel
theorem d_T_besideIn_78 : decode b_T_besideIn 78 = .ok (.iinc 7 1, 3) := by decide +kernel
theorem d_T_besideIn_81 : decode b_T_besideIn 81 = .ok (.goto (-69), 3) := by decide +kernel
theorem d_T_besideIn_84 : decode b_T_besideIn 84 = .ok (.aload_n 0, 1) := by decide +kernel
theorem d_T_besideIn_85 : decode b_T_besideIn 85 = .ok (.getfield 11, 3) := by decide +kernel
theorem d_T_besideIn_88 : decode b_T_besideIn 88 = .ok (.iload_n 1, 1) := by decide +kernel
theorem d_T_besideIn_89 : decode b_T_besideIn 89 = .ok (.iaload, 1) := by decide +kernel
theorem d_T_besideIn_90 : decode b_T_besideIn 90 = .ok (.ifCond .ne 17, 3) := by decide +kernel
theorem d_T_besideIn_93 : decode b_T_besideIn 93 = .ok (.iload_n 3, 1) := by decide +kernel
theorem d_T_besideIn_94 : decode b_T_besideIn 94 = .ok (.ifCond .eq 11, 3) := by decide +kernel
theorem d_T_besideIn_97 : decode b_T_besideIn 97 = .ok (.iload 4, 2) := by decide +kernel
theorem d_T_besideIn_99 : decode b_T_besideIn 99 = .ok (.iload 5, 2) := by decide +kernel
theorem d_T_besideIn_101 : decode b_T_besideIn 101 = .ok (.iadd, 1) := by decide +kernel
theorem d_T_besideIn_102 : decode b_T_besideIn 102 = .ok (.goto 4, 3) := by decide +kernel
theorem d_T_besideIn_105 : decode b_T_besideIn 105 = .ok (.iconst 0, 1) := by decide +kernel
theorem d_T_besideIn_106 : decode b_T_besideIn 106 = .ok (.ireturn, 1) := by decide +kernel
theorem d_T_besideIn_107 : decode b_T_besideIn 107 = .ok (.iload_n 3, 1) := by decide +kernel
theorem d_T_besideIn_108 : decode b_T_besideIn 108 = .ok (.ifCond .eq 13, 3) := by decide +kernel
theorem d_T_besideIn_111 : decode b_T_besideIn 111 = .ok (.iload 4, 2) := by decide +kernel
theorem d_T_besideIn_113 : decode b_T_besideIn 113 = .ok (.iload 5, 2) := by decide +kernel
theorem d_T_besideIn_115 : decode b_T_besideIn 115 = .ok (.invokestatic 150, 3) := by decide +kernel
theorem d_T_besideIn_118 : decode b_T_besideIn 118 = .ok (.goto 10, 3) := by decide +kernel
theorem d_T_besideIn_121 : decode b_T_besideIn 121 = .ok (.iload 4, 2) := by decide +kernel
theorem d_T_besideIn_123 : decode b_T_besideIn 123 = .ok (.iload 5, 2) := by decide +kernel
theorem d_T_besideIn_125 : decode b_T_besideIn 125 = .ok (.invokestatic 179, 3) := by decide +kernel
theorem d_T_besideIn_128 : decode b_T_besideIn 128 = .ok (.ireturn, 1) := by decide +kernel
theorem d_T_betweenIn_0 : decode b_T_betweenIn 0 = .ok (.iconst 0, 1) := by decide +kernel
theorem d_T_betweenIn_1 : decode b_T_betweenIn 1 = .ok (.istore 5, 2) := by decide +kernel
theorem d_T_betweenIn_3 : decode b_T_betweenIn 3 = .ok (.iconst 0, 1) := by decide +kernel
theorem d_T_betweenIn_4 : decode b_T_betweenIn 4 = .ok (.istore 6, 2) := by decide +kernel
theorem d_T_betweenIn_6 : decode b_T_betweenIn 6 = .ok (.iconst 0, 1) := by decide +kernel
theorem d_T_betweenIn_7 : decode b_T_betweenIn 7 = .ok (.istore 7, 2) := by decide +kernel
theorem d_T_betweenIn_9 : decode b_T_betweenIn 9 = .ok (.iconst 0, 1) := by decide +kernel
theorem d_T_betweenIn_10 : decode b_T_betweenIn 10 = .ok (.istore 8, 2) := by decide +kernel
theorem d_T_betweenIn_12 : decode b_T_betweenIn 12 = .ok (.iload 8, 2) := by decide +kernel
theorem d_T_betweenIn_14 : decode b_T_betweenIn 14 = .ok (.aload_n 0, 1) := by decide +kernel
theorem d_T_betweenIn_15 : decode b_T_betweenIn 15 = .ok (.getfield 18, 3) := by decide +kernel
theorem d_T_betweenIn_18 : decode b_T_betweenIn 18 = .ok (.iload_n 1, 1) := by decide +kernel
theorem d_T_betweenIn_19 : decode b_T_betweenIn 19 = .ok (.iaload, 1) := by decide +kernel
theorem d_T_betweenIn_20 : decode b_T_betweenIn 20 = .ok (.if_icmp .ge 68, 3) := by decide +kernel
theorem d_T_betweenIn_23 : decode b_T_betweenIn 23 = .ok (.aload_n 0, 1) := by decide +kernel
theorem d_T_betweenIn_24 : decode b_T_betweenIn 24 = .ok (.getfield 15, 3) := by decide +kernel
theorem d_T_betweenIn_27 : decode b_T_betweenIn 27 = .ok (.aload_n 0, 1) := by decide +kernel
theorem d_T_betweenIn_28 : decode b_T_betweenIn 28 = .ok (.iload_n 1, 1) := by decide +kernel
theorem d_T_betweenIn_29 : decode b_T_betweenIn 29 = .ok (.iload 8, 2) := by decide +kernel
theorem d_T_betweenIn_31 : decode b_T_betweenIn 31 = .ok (.invokevirtual 73, 3) := by decide +kernel
theorem d_T_betweenIn_34 : decode b_T_betweenIn 34 = .ok (.iaload, 1) := by decide +kernel
theorem d_T_betweenIn_35 : decode b_T_betweenIn 35 = .ok (.istore 9, 2) := by decide +kernel
theorem d_T_betweenIn_37 : decode b_T_betweenIn 37 = .ok (.iload 9, 2) := by decide +kernel
theorem d_T_betweenIn_39 : decode b_T_betweenIn 39 = .ok (.iload_n 2, 1) := by decide +kernel
theorem d_T_betweenIn_40 : decode b_T_betweenIn 40 = .ok (.iload_n 3, 1) := by decide +kernel
theorem d_T_betweenIn_41 : decode b_T_betweenIn 41 = .ok (.ior, 1) := by decide +kernel
theorem d_T_betweenIn_42 : decode b_T_betweenIn 42 = .ok (.iand, 1) := by decide +kernel
theorem d_T_betweenIn_43 : decode b_T_betweenIn 43 = .ok (.ifCond .eq 9, 3) := by decide +kernel
theorem d_T_betweenIn_46 : decode b_T_betweenIn 46 = .ok (.iinc 7 1, 3) := by decide +kernel
theorem d_T_betweenIn_49 : decode b_T_betweenIn 49 = .ok (.goto 33, 3) := by decide +kernel
theorem d_T_betweenIn_52 : decode b_T_betweenIn 52 = .ok (.iload 5, 2) := by decide +kernel
theorem d_T_betweenIn_54 : decode b_T_betweenIn 54 = .ok (.iload 9, 2) := by decide +kernel
theorem d_T_betweenIn_56 : decode b_T_betweenIn 56 = .ok (.invokestatic 89, 3) := by decide +kernel
theorem d_T_betweenIn_59 : decode b_T_betweenIn 59 = .ok (.iadd, 1) := by decide +kernel
theorem d_T_betweenIn_60 : decode b_T_betweenIn 60 = .ok (.istore 5, 2) := by decide +kernel
theorem d_T_betweenIn_62 : decode b_T_betweenIn 62 = .ok (.iload 6, 2) := by decide +kernel
theorem d_T_betweenIn_64 : decode b_T_betweenIn 64 = .ok (.iload 7, 2) := by decide +kernel
theorem d_T_betweenIn_66 : decode b_T_betweenIn 66 = .ok (.iconst 1, 1) := by decide +kernel
theorem d_T_betweenIn_67 : decode b_T_betweenIn 67 = .ok (.if_icmp .ne 11, 3) := by decide +kernel
theorem d_T_betweenIn_70 : decode b_T_betweenIn 70 = .ok (.iload 9, 2) := by decide +kernel
theorem d_T_betweenIn_72 : decode b_T_betweenIn 72 = .ok (.invokestatic 89, 3) := by decide +kernel
theorem d_T_betweenIn_75 : decode b_T_betweenIn 75 = .ok (.goto 4, 3) := by decide +kernel
theorem d_T_betweenIn_78 : decode b_T_betweenIn 78 = .ok (.iconst 0, 1) := by decide +kernel
theorem d_T_betweenIn_79 : decode b_T_betweenIn 79 = .ok (.iadd, 1) := by decide +kernel
theorem d_T_betweenIn_80 : decode b_T_betweenIn 80 = .ok (.istore 6, 2) := by decide +kernel
theorem d_T_betweenIn_82 : decode b_T_betweenIn 82 = .ok (.iinc 8 1, 3) := by decide +kernel
theorem d_T_betweenIn_85 : decode b_T_betweenIn 85 = .ok (.goto (-73), 3) := by decide +kernel
theorem d_T_betweenIn_88 : decode b_T_betweenIn 88 = .ok (.aload_n 0, 1) := by decide +kernel
theorem d_T_betweenIn_89 : decode b_T_betweenIn 89 = .ok (.getfield 11, 3) := by decide +kernel
theorem d_T_betweenIn_92 : decode b_T_betweenIn 92 = .ok (.iload_n 1, 1) := by decide +kernel
theorem d_T_betweenIn_93 : decode b_T_betweenIn 93 = .ok (.iaload, 1) := by decide +kernel
theorem d_T_betweenIn_94 : decode b_T_betweenIn 94 = .ok (.ifCond .ne 15, 3) := by decide +kernel
theorem d_T_betweenIn_97 : decode b_T_betweenIn 97 = .ok (.iload 4, 2) := by decide +kernel
theorem d_T_betweenIn_99 : decode b_T_betweenIn 99 = .ok (.ifCond .eq 8, 3) := by decide +kernel
theorem d_T_betweenIn_102 : decode b_T_betweenIn 102 = .ok (.iload 5, 2) := by decide +kernel
theorem d_T_betweenIn_104 : decode b_T_betweenIn 104 = .ok (.goto 4, 3) := by decide +kernel
theorem d_T_betweenIn_107 : decode b_T_betweenIn 107 = .ok (.iconst 0, 1) := by decide +kernel
theorem d_T_betweenIn_108 : decode b_T_betweenIn 108 = .ok (.ireturn, 1) := by decide +kernel
theorem d_T_betweenIn_109 : decode b_T_betweenIn 109 = .ok (.iload 6, 2) := by decide +kernel
theorem d_T_betweenIn_111 : decode b_T_betweenIn 111 = .ok (.ireturn, 1) := by decide +kernel
theorem d_T_between_0 : decode b_T_between 0 = .ok (.aload_n 0, 1) := by decide +kernel
theorem d_T_between_1 : decode b_T_between 1 = .ok (.getfield 15, 3) := by decide +kernel
theorem d_T_between_4 : decode b_T_between 4 = .ok (.iload_n 1, 1) := by decide +kernel
theorem d_T_between_5 : decode b_T_between 5 = .ok (.iaload, 1) := by decide +kernel
theorem d_T_between_6 : decode b_T_between 6 = .ok (.aload_n 0, 1) := by decide +kernel
theorem d_T_between_7 : decode b_T_between 7 = .ok (.getfield 15, 3) := by decide +kernel
theorem d_T_between_10 : decode b_T_between 10 = .ok (.iload_n 2, 1) := by decide +kernel
theorem d_T_between_11 : decode b_T_between 11 = .ok (.iaload, 1) := by decide +kernel
theorem d_T_between_12 : decode b_T_between 12 = .ok (.ior, 1) := by decide +kernel
theorem d_T_between_13 : decode b_T_between 13 = .ok (.istore 4, 2) := by decide +kernel
theorem d_T_between_15 : decode b_T_between 15 = .ok (.aload_n 0, 1) := by decide +kernel
theorem d_T_between_16 : decode b_T_between 16 = .ok (.getfield 24, 3) := by decide +kernel
theorem d_T_between_19 : decode b_T_between 19 = .ok (.istore 5, 2) := by decide +kernel
theorem d_T_between_21 : decode b_T_between 21 = .ok (.iconst 0, 1) := by decide +kernel
theorem d_T_between_22 : decode b_T_between 22 = .ok (.istore 6, 2) := by decide +kernel
theorem d_T_between_24 : decode b_T_between 24 = .ok (.bipush 8, 2) := by decide +kernel
theorem d_T_between_26 : decode b_T_between 26 = .ok (.istore 7, 2) := by decide +kernel
theorem d_T_between_28 : decode b_T_between 28 = .ok (.iload 7, 2) := by decide +kernel
theorem d_T_between_30 : decode b_T_between 30 = .ok (.bipush 8, 2) := by decide +kernel
theorem d_T_between_32 : decode b_T_between 32 = .ok (.aload_n 0, 1) := by decide +kernel
theorem d_T_between_33 : decode b_T_between 33 = .ok (.getfield 28, 3) := by decide +kernel
theorem d_T_between_36 : decode b_T_between 36 = .ok (.iadd, 1) := by decide +kernel
theorem d_T_between_37 : decode b_T_between 37 = .ok (.if_icmp .ge 54, 3) := by decide +kernel
theorem d_T_between_40 : decode b_T_between 40 = .ok (.aload_n 0, 1) := by decide +kernel
theorem d_T_between_41 : decode b_T_between 41 = .ok (.getfield 15, 3) := by decide +kernel
theorem d_T_between_44 : decode b_T_between 44 = .ok (.iload 7, 2) := by decide +kernel
theorem d_T_between_46 : decode b_T_between 46 = .ok (.iaload, 1) := by decide +kernel
theorem d_T_between_47 : decode b_T_between 47 = .ok (.iload 4, 2) := by decide +kernel
theorem d_T_between_49 : decode b_T_between 49 = .ok (.iand, 1) := by decide +kernel
theorem d_T_between_50 : decode b_T_between 50 = .ok (.istore 8, 2) := by decide +kernel
theorem d_T_between_52 : decode b_T_between 52 = .ok (.iload 8, 2) := by decide +kernel
theorem d_T_between_54 : decode b_T_between 54 = .ok (.iload 4, 2) := by decide +kernel
theorem d_T_between_56 : decode b_T_between 56 = .ok (.if_icmp .ne 10, 3) := by decide +kernel
theorem d_T_between_59 : decode b_T_between 59 = .ok (.iload 7, 2) := by decide +kernel
theorem d_T_between_61 : decode b_T_between 61 = .ok (.istore 5, 2) := by decide +kernel
theorem d_T_between_63 : decode b_T_between 63 = .ok (.goto 22, 3) := by decide +kernel
theorem d_T_between_66 : decode b_T_between 66 = .ok (.iload 8, 2) := by decide +kernel
theorem d_T_between_68 : decode b_T_between 68 = .ok (.ifCond .eq 17, 3) := by decide +kernel
theorem d_T_between_71 : decode b_T_between 71 = .ok (.iload 6, 2) := by decide +kernel
theorem d_T_between_73 : decode b_T_between 73 = .ok (.aload_n 0, 1) := by decide +kernel
theorem d_T_between_74 : decode b_T_between 74 = .ok (.iload 7, 2) := by decide +kernel
theorem d_T_between_76 : decode b_T_between 76 = .ok (.iload 8, 2) := by decide +kernel
theorem d_T_between_78 : decode b_T_between 78 = .ok (.iload_n 3, 1) := by decide +kernel
theorem d_T_between_79 : decode b_T_between 79 = .ok (.invokevirtual 171, 3) := by decide +kernel
theorem d_T_between_82 : decode b_T_between 82 = .ok (.iadd, 1) := by decide +kernel
theorem d_T_between_83 : decode b_T_between 83 = .ok (.istore 6, 2) := by decide +kernel
theorem d_T_between_85 : decode b_T_between 85 = .ok (.iinc 7 1, 3) := by decide +kernel
theorem d_T_between_88 : decode b_T_between 88 = .ok (.goto (-60), 3) := by decide +kernel
theorem d_T_between_91 : decode b_T_between 91 = .ok (.iload 6, 2) := by decide +kernel
theorem d_T_between_93 : decode b_T_between 93 = .ok (.aload_n 0, 1) := by decide +kernel
theorem d_T_between_94 : decode b_T_between 94 = .ok (.iload 5, 2) := by decide +kernel
theorem d_T_between_96 : decode b_T_between 96 = .ok (.aload_n 0, 1) := by decide +kernel
theorem d_T_between_97 : decode b_T_between 97 = .ok (.getfield 15, 3) := by decide +kernel
theorem d_T_between_100 : decode b_T_between 100 = .ok (.iload_n 1, 1) := by decide +kernel
theorem d_T_between_101 : decode b_T_between 101 = .ok (.iaload, 1) := by decide +kernel
theorem d_T_between_102 : decode b_T_between 102 = .ok (.aload_n 0, 1) := by decide +kernel
theorem d_T_between_103 : decode b_T_between 103 = .ok (.getfield 15, 3) := by decide +kernel
theorem d_T_between_106 : decode b_T_between 106 = .ok (.iload_n 2, 1) := by decide +kernel
theorem d_T_between_107 : decode b_T_between 107 = .ok (.iaload, 1) := by decide +kernel
theorem d_T_between_108 : decode b_T_between 108 = .ok (.iload_n 3, 1) := by decide +kernel
theorem d_T_between_109 : decode b_T_between 109 = .ok (.invokevirtual 175, 3) := by decide +kernel
theorem d_T_between_112 : decode b_T_between 112 = .ok (.iadd, 1) := by decide +kernel
theorem d_T_between_113 : decode b_T_between 113 = .ok (.ireturn, 1) := by decide +kernel
theorem d_O_takeGroup_0 : decode b_O_takeGroup 0 = .ok (.iconst 1, 1) := by decide +kernel
theorem d_O_takeGroup_1 : decode b_O_takeGroup 1 = .ok (.iload_n 1, 1) := by decide +kernel
theorem d_O_takeGroup_2 : decode b_O_takeGroup 2 = .ok (.ishl, 1) := by decide +kernel
theorem d_O_takeGroup_3 : decode b_O_takeGroup 3 = .ok (.istore_n 2, 1) := by decide +kernel
theorem d_O_takeGroup_4 : decode b_O_takeGroup 4 = .ok (.aload_n 0, 1) := by decide +kernel
theorem d_O_takeGroup_5 : decode b_O_takeGroup 5 = .ok (.dup, 1) := by decide +kernel
theorem d_O_takeGroup_6 : decode b_O_takeGroup 6 = .ok (.getfield 20, 3) := by decide +kernel
theorem d_O_takeGroup_9 : decode b_O_takeGroup 9 = .ok (.iload_n 2, 1) := by decide +kernel
theorem d_O_takeGroup_10 : decode b_O_takeGroup 10 = .ok (.iconst (-1), 1) := by decide +kernel
theorem d_O_takeGroup_11 : decode b_O_takeGroup 11 = .ok (.ixor, 1) := by decide +kernel
theorem d_O_takeGroup_12 : decode b_O_takeGroup 12 = .ok (.iand, 1) := by decide +kernel
theorem d_O_takeGroup_13 : decode b_O_takeGroup 13 = .ok (.putfield 20, 3) := by decide +kernel
theorem d_O_takeGroup_16 : decode b_O_takeGroup 16 = .ok (.aload_n 0, 1) := by decide +kernel
theorem d_O_takeGroup_17 : decode b_O_takeGroup 17 = .ok (.getfield 55, 3) := by decide +kernel
theorem d_O_takeGroup_20 : decode b_O_takeGroup 20 = .ok (.aload_n 0, 1) := by decide +kernel
theorem d_O_takeGroup_21 : decode b_O_takeGroup 21 = .ok (.getfield 42, 3) := by decide +kernel
theorem d_O_takeGroup_24 : decode b_O_takeGroup 24 = .ok (.invokevirtual 100, 3) := by decide +kernel
theorem d_O_takeGroup_27 : decode b_O_takeGroup 27 = .ok (.aload_n 0, 1) := by decide +kernel
theorem d_O_takeGroup_28 : decode b_O_takeGroup 28 = .ok (.getfield 55, 3) := by decide +kernel
theorem d_O_takeGroup_31 : decode b_O_takeGroup 31 = .ok (.aload_n 0, 1) := by decide +kernel
theorem d_O_takeGroup_32 : decode b_O_takeGroup 32 = .ok (.getfield 13, 3) := by decide +kernel
theorem d_O_takeGroup_35 : decode b_O_takeGroup 35 = .ok (.iload_n 1, 1) := by decide +kernel
theorem d_O_takeGroup_36 : decode b_O_takeGroup 36 = .ok (.iaload, 1) := by decide +kernel
theorem d_O_takeGroup_37 : decode b_O_takeGroup 37 = .ok (.invokevirtual 97, 3) := by decide +kernel
theorem d_O_takeGroup_40 : decode b_O_takeGroup 40 = .ok (.ifCond .eq 24, 3) := by decide +kernel
theorem d_O_takeGroup_43 : decode b_O_takeGroup 43 = .ok (.aload_n 0, 1) := by decide +kernel
theorem d_O_takeGroup_44 : decode b_O_takeGroup 44 = .ok (.getfield 42, 3) := by decide +kernel
theorem d_O_takeGroup_47 : decode b_O_takeGroup 47 = .ok (.aload_n 0, 1) := by decide +kernel
theorem d_O_takeGroup_48 : decode b_O_takeGroup 48 = .ok (.getfield 55, 3) := by decide +kernel
theorem d_O_takeGroup_51 : decode b_O_takeGroup 51 = .ok (.invokevirtual 100, 3) := by decide +kernel
theorem d_O_takeGroup_54 : decode b_O_takeGroup 54 = .ok (.aload_n 0, 1) := by decide +kernel
theorem d_O_takeGroup_55 : decode b_O_takeGroup 55 = .ok (.dup, 1) := by decide +kernel
theorem d_O_takeGroup_56 : decode b_O_takeGroup 56 = .ok (.getfield 20, 3) := by decide +kernel
theorem d_O_takeGroup_59 : decode b_O_takeGroup 59 = .ok (.iload_n 2, 1) := by decide +kernel
theorem d_O_takeGroup_60 : decode b_O_takeGroup 60 = .ok (.ior, 1) := by decide +kernel
theorem d_O_takeGroup_61 : decode b_O_takeGroup 61 = .ok (.putfield 20, 3) := by decide +kernel
theorem d_O_takeGroup_64 : decode b_O_takeGroup 64 = .ok (.return_, 1) := by decide +kernel
theorem d_O_drawAll_0 : decode b_O_drawAll 0 = .ok (.aload_n 0, 1) := by decide +kernel
theorem d_O_drawAll_1 : decode b_O_drawAll 1 = .ok (.getfield 42, 3) := by decide +kernel
theorem d_O_drawAll_4 : decode b_O_drawAll 4 = .ok (.aload_n 0, 1) := by decide +kernel
theorem d_O_drawAll_5 : decode b_O_drawAll 5 = .ok (.getfield 9, 3) := by decide +kernel
theorem d_O_drawAll_8 : decode b_O_drawAll 8 = .ok (.invokevirtual 94, 3) := by decide +kernel
theorem d_O_drawAll_11 : decode b_O_drawAll 11 = .ok (.aload_n 0, 1) := by decide +kernel
theorem d_O_drawAll_12 : decode b_O_drawAll 12 = .ok (.iconst 0, 1) := by decide +kernel
theorem d_O_drawAll_13 : decode b_O_drawAll 13 = .ok (.putfield 20, 3) := by decide +kernel
theorem d_O_drawAll_16 : decode b_O_drawAll 16 = .ok (.iconst 0, 1) := by decide +kernel
theorem d_O_drawAll_17 : decode b_O_drawAll 17 = .ok (.istore_n 1, 1) := by decide +kernel
theorem d_O_drawAll_18 : decode b_O_drawAll 18 = .ok (.iload_n 1, 1) := by decide +kernel
theorem d_O_drawAll_19 : decode b_O_drawAll 19 = .ok (.aload_n 0, 1) := by decide +kernel
theorem d_O_drawAll_20 : decode b_O_drawAll 20 = .ok (.getfield 17, 3) := by decide +kernel
theorem d_O_drawAll_23 : decode b_O_drawAll 23 = .ok (.if_icmp .ge 14, 3) := by decide +kernel
theorem d_O_drawAll_26 : decode b_O_drawAll 26 = .ok (.aload_n 0, 1) := by decide +kernel
theorem d_O_drawAll_27 : decode b_O_drawAll 27 = .ok (.iload_n 1, 1) := by decide +kernel
theorem d_O_drawAll_28 : decode b_O_drawAll 28 = .ok (.invokevirtual 77, 3) := by decide +kernel
theorem d_O_drawAll_31 : decode b_O_drawAll 31 = .ok (.iinc 1 1, 3) := by decide +kernel
theorem d_O_drawAll_34 : decode b_O_drawAll 34 = .ok (.goto (-16), 3) := by decide +kernel
theorem d_O_drawAll_37 : decode b_O_drawAll 37 = .ok (.aload_n 0, 1) := by decide +kernel
theorem d_O_drawAll_38 : decode b_O_drawAll 38 = .ok (.aload_n 0, 1) := by decide +kernel
theorem d_O_drawAll_39 : decode b_O_drawAll 39 = .ok (.getfield 42, 3) := by decide +kernel
theorem d_O_drawAll_42 : decode b_O_drawAll 42 = .ok (.aload_n 0, 1) := by decide +kernel
theorem d_O_drawAll_43 : decode b_O_drawAll 43 = .ok (.getfield 46, 3) := by decide +kernel
theorem d_O_drawAll_46 : decode b_O_drawAll 46 = .ok (.invokevirtual 81, 3) := by decide +kernel
theorem d_O_drawAll_49 : decode b_O_drawAll 49 = .ok (.putfield 49, 3) := by decide +kernel
theorem d_O_drawAll_52 : decode b_O_drawAll 52 = .ok (.return_, 1) := by decide +kernel
theorem d_O_init_0 : decode b_O_init 0 = .ok (.aload_n 0, 1) := by decide +kernel
theorem d_O_init_1 : decode b_O_init 1 = .ok (.invokespecial 1, 3) := by decide +kernel
theorem d_O_init_4 : decode b_O_init 4 = .ok (.aload_n 0, 1) := by decide +kernel
theorem d_O_init_5 : decode b_O_init 5 = .ok (.iconst 5, 1) := by decide +kernel
theorem d_O_init_6 : decode b_O_init 6 = .ok (.putfield 9, 3) := by decide +kernel
theorem d_O_init_9 : decode b_O_init 9 = .ok (.aload_n 0, 1) := by decide +kernel
theorem d_O_init_10 : decode b_O_init 10 = .ok (.bipush 10, 2) := by decide +kernel
theorem d_O_init_12 : decode b_O_init 12 = .ok (.newarray .int, 2) := by decide +kernel
theorem d_O_init_14 : decode b_O_init 14 = .ok (.putfield 13, 3) := by decide +kernel
theorem d_O_init_17 : decode b_O_init 17 = .ok (.aload_n 0, 1) := by decide +kernel
theorem d_O_init_18 : decode b_O_init 18 = .ok (.iconst 0, 1) := by decide +kernel
theorem d_O_init_19 : decode b_O_init 19 = .ok (.putfield 17, 3) := by decide +kernel
theorem d_O_init_22 : decode b_O_init 22 = .ok (.aload_n 0, 1) := by decide +kernel
theorem d_O_init_23 : decode b_O_init 23 = .ok (.iconst 0, 1) := by decide +kernel
theorem d_O_init_24 : decode b_O_init 24 = .ok (.putfield 20, 3) := by decide +kernel
theorem d_O_init_27 : decode b_O_init 27 = .ok (.aload_n 0, 1) := by decide +kernel
theorem d_O_init_28 : decode b_O_init 28 = .ok (.bipush 8, 2) := by decide +kernel
theorem d_O_init_30 : decode b_O_init 30 = .ok (.newarray .int, 2) := by decide +kernel
theorem d_O_init_32 : decode b_O_init 32 = .ok (.putfield 23, 3) := by decide +kernel
theorem d_O_init_35 : decode b_O_init 35 = .ok (.aload_n 0, 1) := by decide +kernel
theorem d_O_init_36 : decode b_O_init 36 = .ok (.iconst 0, 1) := by decide +kernel
theorem d_O_init_37 : decode b_O_init 37 = .ok (.putfield 26, 3) := by decide +kernel
theorem d_O_init_40 : decode b_O_init 40 = .ok (.aload_n 0, 1) := by decide +kernel
theorem d_O_init_41 : decode b_O_init 41 = .ok (.iconst 0, 1) := by decide +kernel
theorem d_O_init_42 : decode b_O_init 42 = .ok (.putfield 29, 3) := by decide +kernel
theorem d_O_init_45 : decode b_O_init 45 = .ok (.aload_n 0, 1) := by decide +kernel
theorem d_O_init_46 : decode b_O_init 46 = .ok (.new 32, 3) := by decide +kernel
theorem d_O_init_49 : decode b_O_init 49 = .ok (.dup, 1) := by decide +kernel
theorem d_O_init_50 : decode b_O_init 50 = .ok (.invokespecial 34, 3) := by decide +kernel
theorem d_O_init_53 : decode b_O_init 53 = .ok (.putfield 35, 3) := by decide +kernel
theorem d_O_init_56 : decode b_O_init 56 = .ok (.aload_n 0, 1) := by decide +kernel
theorem d_O_init_57 : decode b_O_init 57 = .ok (.new 39, 3) := by decide +kernel
theorem d_O_init_60 : decode b_O_init 60 = .ok (.dup, 1) := by decide +kernel
theorem d_O_init_61 : decode b_O_init 61 = .ok (.invokespecial 41, 3) := by decide +kernel
theorem d_O_init_64 : decode b_O_init 64 = .ok (.putfield 42, 3) := by decide +kernel
theorem d_O_init_67 : decode b_O_init 67 = .ok (.aload_n 0, 1) := by decide +kernel
theorem d_O_init_68 : decode b_O_init 68 = .ok (.bipush 40, 2) := by decide +kernel
theorem d_O_init_70 : decode b_O_init 70 = .ok (.newarray .int, 2) := by decide +kernel
theorem d_O_init_72 : decode b_O_init 72 = .ok (.putfield 46, 3) := by decide +kernel
theorem d_O_init_75 : decode b_O_init 75 = .ok (.aload_n 0, 1) := by decide +kernel
theorem d_O_init_76 : decode b_O_init 76 = .ok (.iconst 0, 1) := by decide +kernel
theorem d_O_init_77 : decode b_O_init 77 = .ok (.putfield 49, 3) := by decide +kernel
theorem d_O_init_80 : decode b_O_init 80 = .ok (.aload_n 0, 1) := by decide +kernel
theorem d_O_init_81 : decode b_O_init 81 = .ok (.new 39, 3) := by decide +kernel
theorem d_O_init_84 : decode b_O_init 84 = .ok (.dup, 1) := by decide +kernel
theorem d_O_init_85 : decode b_O_init 85 = .ok (.invokespecial 41, 3) := by decide +kernel
theorem d_O_init_88 : decode b_O_init 88 = .ok (.putfield 52, 3) := by decide +kernel
theorem d_O_init_91 : decode b_O_init 91 = .ok (.aload_n 0, 1) := by decide +kernel
theorem d_O_init_92 : decode b_O_init 92 = .ok (.new 39, 3) := by decide +kernel
theorem d_O_init_95 : decode b_O_init 95 = .ok (.dup, 1) := by decide +kernel
theorem d_O_init_96 : decode b_O_init 96 = .ok (.invokespecial 41, 3) := by decide +kernel
theorem d_O_init_99 : decode b_O_init 99 = .ok (.putfield 55, 3) := by decide +kernel
theorem d_O_init_102 : decode b_O_init 102 = .ok (.aload_n 0, 1) := by decide +kernel
theorem d_O_init_103 : decode b_O_init 103 = .ok (.bipush 8, 2) := by decide +kernel
theorem d_O_init_105 : decode b_O_init 105 = .ok (.newarray .int, 2) := by decide +kernel
theorem d_O_init_107 : decode b_O_init 107 = .ok (.putfield 58, 3) := by decide +kernel
theorem d_O_init_110 : decode b_O_init 110 = .ok (.aload_n 0, 1) := by decide +kernel
theorem d_O_init_111 : decode b_O_init 111 = .ok (.bipush 8, 2) := by decide +kernel
theorem d_O_init_113 : decode b_O_init 113 = .ok (.newarray .int, 2) := by decide +kernel
theorem d_O_init_115 : decode b_O_init 115 = .ok (.putfield 61, 3) := by decide +kernel
theorem d_O_init_118 : decode b_O_init 118 = .ok (.aload_n 0, 1) := by decide +kernel
theorem d_O_init_119 : decode b_O_init 119 = .ok (.invokevirtual 64, 3) := by decide +kernel
theorem d_O_init_122 : decode b_O_init 122 = .ok (.return_, 1) := by decide +kernel
theorem d_O_things_0 : decode b_O_things 0 = .ok (.iload_n 1, 1) := by decide +kernel
theorem d_O_things_1 : decode b_O_things 1 = .ok (.iconst 1, 1) := by decide +kernel
theorem d_O_things_2 : decode b_O_things 2 = .ok (.if_icmp .lt 9, 3) := by decide +kernel
theorem d_O_things_5 : decode b_O_things 5 = .ok (.iload_n 1, 1) := by decide +kernel
theorem d_O_things_6 : decode b_O_things 6 = .ok (.bipush 8, 2) := by decide +kernel
theorem d_O_things_8 : decode b_O_things 8 = .ok (.if_icmp .le 6, 3) := by decide +kernel
theorem d_O_things_11 : decode b_O_things 11 = .ok (.bipush (-2), 2) := by decide +kernel
theorem d_O_things_13 : decode b_O_things 13 = .ok (.ireturn, 1) := by decide +kernel
theorem d_O_things_14 : decode b_O_things 14 = .ok (.aload_n 0, 1) := by decide +kernel
theorem d_O_things_15 : decode b_O_things 15 = .ok (.getfield 9, 3) := by decide +kernel
theorem d_O_things_18 : decode b_O_things 18 = .ok (.istore_n 2, 1) := by decide +kernel
theorem d_O_things_19 : decode b_O_things 19 = .ok (.aload_n 0, 1) := by decide +kernel
theorem d_O_things_20 : decode b_O_things 20 = .ok (.iload_n 1, 1) := by decide +kernel
theorem d_O_things_21 : decode b_O_things 21 = .ok (.putfield 9, 3) := by decide +kernel
theorem d_O_things_24 : decode b_O_things 24 = .ok (.aload_n 0, 1) := by decide +kernel
theorem d_O_things_25 : decode b_O_things 25 = .ok (.invokevirtual 64, 3) := by decide +kernel
theorem d_O_things_28 : decode b_O_things 28 = .ok (.iload_n 2, 1) := by decide +kernel
theorem d_O_things_29 : decode b_O_things 29 = .ok (.ireturn, 1) := by decide +kernel
theorem d_O_isSet_0 : decode b_O_isSet 0 = .ok (.iload_n 0, 1) := by decide +kernel
theorem d_O_isSet_1 : decode b_O_isSet 1 = .ok (.ifCond .lt 14, 3) := by decide +kernel
theorem d_O_isSet_4 : decode b_O_isSet 4 = .ok (.iload_n 0, 1) := by decide +kernel
theorem d_O_isSet_5 : decode b_O_isSet 5 = .ok (.sipush 256, 3) := by decide +kernel
theorem d_O_isSet_8 : decode b_O_isSet 8 = .ok (.if_icmp .ge 7, 3) := by decide +kernel
theorem d_O_isSet_11 : decode b_O_isSet 11 = .ok (.iconst 1, 1) := by decide +kernel
theorem d_O_isSet_12 : decode b_O_isSet 12 = .ok (.goto 4, 3) := by decide +kernel
theorem d_O_isSet_15 : decode b_O_isSet 15 = .ok (.iconst 0, 1) := by decide +kernel
theorem d_O_isSet_16 : decode b_O_isSet 16 = .ok (.ireturn, 1) := by decide +kernel
theorem d_O_isGroup_0 : decode b_O_isGroup 0 = .ok (.iload_n 1, 1) := by decide +kernel
theorem d_O_isGroup_1 : decode b_O_isGroup 1 = .ok (.ifCond .lt 15, 3) := by decide +kernel
theorem d_O_isGroup_4 : decode b_O_isGroup 4 = .ok (.iload_n 1, 1) := by decide +kernel
theorem d_O_isGroup_5 : decode b_O_isGroup 5 = .ok (.aload_n 0, 1) := by decide +kernel
theorem d_O_isGroup_6 : decode b_O_isGroup 6 = .ok (.getfield 17, 3) := by decide +kernel
theorem d_O_isGroup_9 : decode b_O_isGroup 9 = .ok (.if_icmp .ge 7, 3) := by decide +kernel
theorem d_O_isGroup_12 : decode b_O_isGroup 12 = .ok (.iconst 1, 1) := by decide +kernel
theorem d_O_isGroup_13 : decode b_O_isGroup 13 = .ok (.goto 4, 3) := by decide +kernel
theorem d_O_isGroup_16 : decode b_O_isGroup 16 = .ok (.iconst 0, 1) := by decide +kernel
theorem d_O_isGroup_17 : decode b_O_isGroup 17 = .ok (.ireturn, 1) := by decide +kernel
theorem d_O_isTaken_0 : decode b_O_isTaken 0 = .ok (.aload_n 0, 1) := by decide +kernel
theorem d_O_isTaken_1 : decode b_O_isTaken 1 = .ok (.getfield 20, 3) := by decide +kernel
theorem d_O_isTaken_4 : decode b_O_isTaken 4 = .ok (.iload_n 1, 1) := by decide +kernel
theorem d_O_isTaken_5 : decode b_O_isTaken 5 = .ok (.ishr, 1) := by decide +kernel
theorem d_O_isTaken_6 : decode b_O_isTaken 6 = .ok (.iconst 1, 1) := by decide +kernel
theorem d_O_isTaken_7 : decode b_O_isTaken 7 = .ok (.iand, 1) := by decide +kernel
theorem d_O_isTaken_8 : decode b_O_isTaken 8 = .ok (.ifCond .eq 7, 3) := by decide +kernel
theorem d_O_isTaken_11 : decode b_O_isTaken 11 = .ok (.iconst 1, 1) := by decide +kernel
theorem d_O_isTaken_12 : decode b_O_isTaken 12 = .ok (.goto 4, 3) := by decide +kernel
theorem d_O_isTaken_15 : decode b_O_isTaken 15 = .ok (.iconst 0, 1) := by decide +kernel
theorem d_O_isTaken_16 : decode b_O_isTaken 16 = .ok (.ireturn, 1) := by decide +kernel
theorem d_O_taken_0 : decode b_O_taken 0 = .ok (.aload_n 0, 1) := by decide +kernel
theorem d_O_taken_1 : decode b_O_taken 1 = .ok (.iload_n 1, 1) := by decide +kernel
theorem d_O_taken_2 : decode b_O_taken 2 = .ok (.invokevirtual 88, 3) := by decide +kernel
theorem d_O_taken_5 : decode b_O_taken 5 = .ok (.ifCond .ne 6, 3) := by decide +kernel
theorem d_O_taken_8 : decode b_O_taken 8 = .ok (.bipush (-2), 2) := by decide +kernel
theorem d_O_taken_10 : decode b_O_taken 10 = .ok (.ireturn, 1) := by decide +kernel
theorem d_O_taken_11 : decode b_O_taken 11 = .ok (.aload_n 0, 1) := by decide +kernel
theorem d_O_taken_12 : decode b_O_taken 12 = .ok (.iload_n 1, 1) := by decide +kernel
theorem d_O_taken_13 : decode b_O_taken 13 = .ok (.invokevirtual 91, 3) := by decide +kernel
theorem d_O_taken_16 : decode b_O_taken 16 = .ok (.ifCond .eq 7, 3) := by decide +kernel
theorem d_O_taken_19 : decode b_O_taken 19 = .ok (.iconst 1, 1) := by decide +kernel
theorem d_O_taken_20 : decode b_O_taken 20 = .ok (.goto 4, 3) := by decide +kernel
theorem d_O_taken_23 : decode b_O_taken 23 = .ok (.iconst 0, 1) := by decide +kernel
theorem d_O_taken_24 : decode b_O_taken 24 = .ok (.ireturn, 1) := by decide +kernel
theorem d_O_group_0 : decode b_O_group 0 = .ok (.iload_n 1, 1) := by decide +kernel
theorem d_O_group_1 : decode b_O_group 1 = .ok (.invokestatic 67, 3) := by decide +kernel
theorem d_O_group_4 : decode b_O_group 4 = .ok (.ifCond .eq 11, 3) := by decide +kernel
theorem d_O_group_7 : decode b_O_group 7 = .ok (.iload_n 1, 1) := by decide +kernel
theorem d_O_group_8 : decode b_O_group 8 = .ok (.invokestatic 71, 3) := by decide +kernel
theorem d_O_group_11 : decode b_O_group 11 = .ok (.iconst 2, 1) := by decide +kernel
theorem d_O_group_12 : decode b_O_group 12 = .ok (.if_icmp .ge 6, 3) := by decide +kernel
theorem d_O_group_15 : decode b_O_group 15 = .ok (.bipush (-2), 2) := by decide +kernel
theorem d_O_group_17 : decode b_O_group 17 = .ok (.ireturn, 1) := by decide +kernel
theorem d_O_group_18 : decode b_O_group 18 = .ok (.aload_n 0, 1) := by decide +kernel
theorem d_O_group_19 : decode b_O_group 19 = .ok (.getfield 17, 3) := by decide +kernel
theorem d_O_group_22 : decode b_O_group 22 = .ok (.bipush 10, 2) := by decide +kernel
theorem d_O_group_24 : decode b_O_group 24 = .ok (.if_icmp .lt 6, 3) := by decide +kernel
theorem d_O_group_27 : decode b_O_group 27 = .ok (.bipush (-4), 2) := by decide +kernel
theorem d_O_group_29 : decode b_O_group 29 = .ok (.ireturn, 1) := by decide +kernel
theorem d_O_group_30 : decode b_O_group 30 = .ok (.aload_n 0, 1) := by decide +kernel
theorem d_O_group_31 : decode b_O_group 31 = .ok (.getfield 13, 3) := by decide +kernel
theorem d_O_group_34 : decode b_O_group 34 = .ok (.aload_n 0, 1) := by decide +kernel
theorem d_O_group_35 : decode b_O_group 35 = .ok (.getfield 17, 3) := by decide +kernel
theorem d_O_group_38 : decode b_O_group 38 = .ok (.iload_n 1, 1) := by decide +kernel
theorem d_O_group_39 : decode b_O_group 39 = .ok (.iastore, 1) := by decide +kernel
theorem d_O_group_40 : decode b_O_group 40 = .ok (.aload_n 0, 1) := by decide +kernel
theorem d_O_group_41 : decode b_O_group 41 = .ok (.dup, 1) := by decide +kernel
theorem d_O_group_42 : decode b_O_group 42 = .ok (.getfield 17, 3) := by decide +kernel
theorem d_O_group_45 : decode b_O_group 45 = .ok (.iconst 1, 1) := by decide +kernel
theorem d_O_group_46 : decode b_O_group 46 = .ok (.iadd, 1) := by decide +kernel
theorem d_O_group_47 : decode b_O_group 47 = .ok (.putfield 17, 3) := by decide +kernel
theorem d_O_group_50 : decode b_O_group 50 = .ok (.aload_n 0, 1) := by decide +kernel
theorem d_O_group_51 : decode b_O_group 51 = .ok (.aload_n 0, 1) := by decide +kernel
theorem d_O_group_52 : decode b_O_group 52 = .ok (.getfield 17, 3) := by decide +kernel
theorem d_O_group_55 : decode b_O_group 55 = .ok (.iconst 1, 1) := by decide +kernel
theorem d_O_group_56 : decode b_O_group 56 = .ok (.isub, 1) := by decide +kernel
theorem d_O_group_57 : decode b_O_group 57 = .ok (.invokevirtual 77, 3) := by decide +kernel
theorem d_O_group_60 : decode b_O_group 60 = .ok (.aload_n 0, 1) := by decide +kernel
theorem d_O_group_61 : decode b_O_group 61 = .ok (.aload_n 0, 1) := by decide +kernel
theorem d_O_group_62 : decode b_O_group 62 = .ok (.getfield 42, 3) := by decide +kernel
theorem d_O_group_65 : decode b_O_group 65 = .ok (.aload_n 0, 1) := by decide +kernel
theorem d_O_group_66 : decode b_O_group 66 = .ok (.getfield 46, 3) := by decide +kernel
theorem d_O_group_69 : decode b_O_group 69 = .ok (.invokevirtual 81, 3) := by decide +kernel
theorem d_O_group_72 : decode b_O_group 72 = .ok (.putfield 49, 3) := by decide +kernel
theorem d_O_group_75 : decode b_O_group 75 = .ok (.aload_n 0, 1) := by decide +kernel
theorem d_O_group_76 : decode b_O_group 76 = .ok (.aload_n 0, 1) := by decide +kernel
theorem d_O_group_77 : decode b_O_group 77 = .ok (.getfield 17, 3) := by decide +kernel
theorem d_O_group_80 : decode b_O_group 80 = .ok (.iconst 1, 1) := by decide +kernel
theorem d_O_group_81 : decode b_O_group 81 = .ok (.isub, 1) := by decide +kernel
theorem d_O_group_82 : decode b_O_group 82 = .ok (.invokevirtual 85, 3) := by decide +kernel
theorem d_O_group_85 : decode b_O_group 85 = .ok (.ireturn, 1) := by decide +kernel
theorem d_O_back_0 : decode b_O_back 0 = .ok (.aload_n 0, 1) := by decide +kernel
theorem d_O_back_1 : decode b_O_back 1 = .ok (.getfield 17, 3) := by decide +kernel
theorem d_O_back_4 : decode b_O_back 4 = .ok (.iconst 1, 1) := by decide +kernel
theorem d_O_back_5 : decode b_O_back 5 = .ok (.if_icmp .ge 6, 3) := by decide +kernel
theorem d_O_back_8 : decode b_O_back 8 = .ok (.bipush (-3), 2) := by decide +kernel
theorem d_O_back_10 : decode b_O_back 10 = .ok (.ireturn, 1) := by decide +kernel
theorem d_O_back_11 : decode b_O_back 11 = .ok (.aload_n 0, 1) := by decide +kernel
theorem d_O_back_12 : decode b_O_back 12 = .ok (.dup, 1) := by decide +kernel
theorem d_O_back_13 : decode b_O_back 13 = .ok (.getfield 17, 3) := by decide +kernel
theorem d_O_back_16 : decode b_O_back 16 = .ok (.iconst 1, 1) := by decide +kernel
theorem d_O_back_17 : decode b_O_back 17 = .ok (.isub, 1) := by decide +kernel
theorem d_O_back_18 : decode b_O_back 18 = .ok (.putfield 17, 3) := by decide +kernel
theorem d_O_back_21 : decode b_O_back 21 = .ok (.aload_n 0, 1) := by decide +kernel
theorem d_O_back_22 : decode b_O_back 22 = .ok (.invokevirtual 64, 3) := by decide +kernel
theorem d_O_back_25 : decode b_O_back 25 = .ok (.aload_n 0, 1) := by decide +kernel
theorem d_O_back_26 : decode b_O_back 26 = .ok (.getfield 17, 3) := by decide +kernel
theorem d_O_back_29 : decode b_O_back 29 = .ok (.ireturn, 1) := by decide +kernel
theorem d_O_reason_0 : decode b_O_reason 0 = .ok (.aload_n 0, 1) := by decide +kernel
theorem d_O_reason_1 : decode b_O_reason 1 = .ok (.iload_n 1, 1) := by decide +kernel
theorem d_O_reason_2 : decode b_O_reason 2 = .ok (.invokevirtual 88, 3) := by decide +kernel
theorem d_O_reason_5 : decode b_O_reason 5 = .ok (.ifCond .ne 6, 3) := by decide +kernel
theorem d_O_reason_8 : decode b_O_reason 8 = .ok (.bipush (-2), 2) := by decide +kernel
theorem d_O_reason_10 : decode b_O_reason 10 = .ok (.ireturn, 1) := by decide +kernel
theorem d_O_reason_11 : decode b_O_reason 11 = .ok (.aload_n 0, 1) := by decide +kernel
theorem d_O_reason_12 : decode b_O_reason 12 = .ok (.iload_n 1, 1) := by decide +kernel
theorem d_O_reason_13 : decode b_O_reason 13 = .ok (.invokevirtual 91, 3) := by decide +kernel
theorem d_O_reason_16 : decode b_O_reason 16 = .ok (.ifCond .eq 6, 3) := by decide +kernel
theorem d_O_reason_19 : decode b_O_reason 19 = .ok (.bipush (-3), 2) := by decide +kernel
theorem d_O_reason_21 : decode b_O_reason 21 = .ok (.ireturn, 1) := by decide +kernel
theorem d_O_reason_22 : decode b_O_reason 22 = .ok (.aload_n 0, 1) := by decide +kernel
theorem d_O_reason_23 : decode b_O_reason 23 = .ok (.getfield 20, 3) := by decide +kernel
theorem d_O_reason_26 : decode b_O_reason 26 = .ok (.iconst 1, 1) := by decide +kernel
theorem d_O_reason_27 : decode b_O_reason 27 = .ok (.iload_n 1, 1) := by decide +kernel
theorem d_O_reason_28 : decode b_O_reason 28 = .ok (.ishl, 1) := by decide +kernel
theorem d_O_reason_29 : decode b_O_reason 29 = .ok (.iconst 1, 1) := by decide +kernel
theorem d_O_reason_30 : decode b_O_reason 30 = .ok (.isub, 1) := by decide +kernel
theorem d_O_reason_31 : decode b_O_reason 31 = .ok (.iand, 1) := by decide +kernel
theorem d_O_reason_32 : decode b_O_reason 32 = .ok (.istore_n 2, 1) := by decide +kernel
theorem d_O_reason_33 : decode b_O_reason 33 = .ok (.aload_n 0, 1) := by decide +kernel
theorem d_O_reason_34 : decode b_O_reason 34 = .ok (.getfield 52, 3) := by decide +kernel
theorem d_O_reason_37 : decode b_O_reason 37 = .ok (.aload_n 0, 1) := by decide +kernel
theorem d_O_reason_38 : decode b_O_reason 38 = .ok (.getfield 9, 3) := by decide +kernel
theorem d_O_reason_41 : decode b_O_reason 41 = .ok (.invokevirtual 94, 3) := by decide +kernel
theorem d_O_reason_44 : decode b_O_reason 44 = .ok (.aload_n 0, 1) := by decide +kernel
theorem d_O_reason_45 : decode b_O_reason 45 = .ok (.getfield 52, 3) := by decide +kernel
theorem d_O_reason_48 : decode b_O_reason 48 = .ok (.aload_n 0, 1) := by decide +kernel
theorem d_O_reason_49 : decode b_O_reason 49 = .ok (.getfield 13, 3) := by decide +kernel
theorem d_O_reason_52 : decode b_O_reason 52 = .ok (.iload_n 1, 1) := by decide +kernel
theorem d_O_reason_53 : decode b_O_reason 53 = .ok (.iaload, 1) := by decide +kernel
theorem d_O_reason_54 : decode b_O_reason 54 = .ok (.invokevirtual 97, 3) := by decide +kernel
theorem d_O_reason_57 : decode b_O_reason 57 = .ok (.pop, 1) := by decide +kernel
theorem d_O_reason_58 : decode b_O_reason 58 = .ok (.iconst 0, 1) := by decide +kernel
theorem d_O_reason_59 : decode b_O_reason 59 = .ok (.istore_n 3, 1) := by decide +kernel
theorem d_O_reason_60 : decode b_O_reason 60 = .ok (.iload_n 3, 1) := by decide +kernel
theorem d_O_reason_61 : decode b_O_reason 61 = .ok (.iload_n 1, 1) := by decide +kernel
theorem d_O_reason_62 : decode b_O_reason 62 = .ok (.if_icmp .ge 129, 3) := by decide +kernel
theorem d_O_reason_65 : decode b_O_reason 65 = .ok (.iload_n 2, 1) := by decide +kernel
theorem d_O_reason_66 : decode b_O_reason 66 = .ok (.iload_n 3, 1) := by decide +kernel
theorem d_O_reason_67 : decode b_O_reason 67 = .ok (.ishr, 1) := by decide +kernel
theorem d_O_reason_68 : decode b_O_reason 68 = .ok (.iconst 1, 1) := by decide +kernel
theorem d_O_reason_69 : decode b_O_reason 69 = .ok (.iand, 1) := by decide +kernel
theorem d_O_reason_70 : decode b_O_reason 70 = .ok (.ifCond .ne 6, 3) := by decide +kernel
theorem d_O_reason_73 : decode b_O_reason 73 = .ok (.goto 112, 3) := by decide +kernel
theorem d_O_reason_76 : decode b_O_reason 76 = .ok (.aload_n 0, 1) := by decide +kernel
theorem d_O_reason_77 : decode b_O_reason 77 = .ok (.getfield 55, 3) := by decide +kernel
theorem d_O_reason_80 : decode b_O_reason 80 = .ok (.aload_n 0, 1) := by decide +kernel
theorem d_O_reason_81 : decode b_O_reason 81 = .ok (.getfield 52, 3) := by decide +kernel
theorem d_O_reason_84 : decode b_O_reason 84 = .ok (.invokevirtual 100, 3) := by decide +kernel
theorem d_O_reason_87 : decode b_O_reason 87 = .ok (.iconst 1, 1) := by decide +kernel
theorem d_O_reason_88 : decode b_O_reason 88 = .ok (.istore 4, 2) := by decide +kernel
theorem d_O_reason_90 : decode b_O_reason 90 = .ok (.iload_n 3, 1) := by decide +kernel
theorem d_O_reason_91 : decode b_O_reason 91 = .ok (.iconst 1, 1) := by decide +kernel
theorem d_O_reason_92 : decode b_O_reason 92 = .ok (.iadd, 1) := by decide +kernel
theorem d_O_reason_93 : decode b_O_reason 93 = .ok (.istore 5, 2) := by decide +kernel
theorem d_O_reason_95 : decode b_O_reason 95 = .ok (.iload 5, 2) := by decide +kernel
theorem d_O_reason_97 : decode b_O_reason 97 = .ok (.iload_n 1, 1) := by decide +kernel
theorem d_O_reason_98 : decode b_O_reason 98 = .ok (.if_icmp .ge 47, 3) := by decide +kernel
theorem d_O_reason_101 : decode b_O_reason 101 = .ok (.iload 4, 2) := by decide +kernel
theorem d_O_reason_103 : decode b_O_reason 103 = .ok (.ifCond .eq 42, 3) := by decide +kernel
theorem d_O_reason_106 : decode b_O_reason 106 = .ok (.iload_n 2, 1) := by decide +kernel
theorem d_O_reason_107 : decode b_O_reason 107 = .ok (.iload 5, 2) := by decide +kernel
theorem d_O_reason_109 : decode b_O_reason 109 = .ok (.ishr, 1) := by decide +kernel
theorem d_O_reason_110 : decode b_O_reason 110 = .ok (.iconst 1, 1) := by decide +kernel
theorem d_O_reason_111 : decode b_O_reason 111 = .ok (.iand, 1) := by decide +kernel
theorem d_O_reason_112 : decode b_O_reason 112 = .ok (.ifCond .eq 20, 3) := by decide +kernel
theorem d_O_reason_115 : decode b_O_reason 115 = .ok (.aload_n 0, 1) := by decide +kernel
theorem d_O_reason_116 : decode b_O_reason 116 = .ok (.getfield 55, 3) := by decide +kernel
theorem d_O_reason_119 : decode b_O_reason 119 = .ok (.aload_n 0, 1) := by decide +kernel
theorem d_O_reason_120 : decode b_O_reason 120 = .ok (.getfield 13, 3) := by decide +kernel
theorem d_O_reason_123 : decode b_O_reason 123 = .ok (.iload 5, 2) := by decide +kernel
theorem d_O_reason_125 : decode b_O_reason 125 = .ok (.iaload, 1) := by decide +kernel
theorem d_O_reason_126 : decode b_O_reason 126 = .ok (.invokevirtual 97, 3) := by decide +kernel
theorem d_O_reason_129 : decode b_O_reason 129 = .ok (.ifCond .eq 7, 3) := by decide +kernel
theorem d_O_reason_132 : decode b_O_reason 132 = .ok (.iconst 1, 1) := by decide +kernel
theorem d_O_reason_133 : decode b_O_reason 133 = .ok (.goto 4, 3) := by decide +kernel
theorem d_O_reason_136 : decode b_O_reason 136 = .ok (.iconst 0, 1) := by decide +kernel
theorem d_O_reason_137 : decode b_O_reason 137 = .ok (.istore 4, 2) := by decide +kernel
theorem d_O_reason_139 : decode b_O_reason 139 = .ok (.iinc 5 1, 3) := by decide +kernel
theorem d_O_reason_142 : decode b_O_reason 142 = .ok (.goto (-47), 3) := by decide +kernel
theorem d_O_reason_145 : decode b_O_reason 145 = .ok (.iload 4, 2) := by decide +kernel
theorem d_O_reason_147 : decode b_O_reason 147 = .ok (.ifCond .ne 14, 3) := by decide +kernel
theorem d_O_reason_150 : decode b_O_reason 150 = .ok (.iload_n 2, 1) := by decide +kernel
theorem d_O_reason_151 : decode b_O_reason 151 = .ok (.iconst 1, 1) := by decide +kernel
theorem d_O_reason_152 : decode b_O_reason 152 = .ok (.iload_n 3, 1) := by decide +kernel
theorem d_O_reason_153 : decode b_O_reason 153 = .ok (.ishl, 1) := by decide +kernel
theorem d_O_reason_154 : decode b_O_reason 154 = .ok (.iconst (-1), 1) := by decide +kernel
theorem d_O_reason_155 : decode b_O_reason 155 = .ok (.ixor, 1) := by decide +kernel
theorem d_O_reason_156 : decode b_O_reason 156 = .ok (.iand, 1) := by decide +kernel
theorem d_O_reason_157 : decode b_O_reason 157 = .ok (.istore_n 2, 1) := by decide +kernel
theorem d_O_reason_158 : decode b_O_reason 158 = .ok (.goto 27, 3) := by decide +kernel
theorem d_O_reason_161 : decode b_O_reason 161 = .ok (.aload_n 0, 1) := by decide +kernel
theorem d_O_reason_162 : decode b_O_reason 162 = .ok (.getfield 52, 3) := by decide +kernel
theorem d_O_reason_165 : decode b_O_reason 165 = .ok (.aload_n 0, 1) := by decide +kernel
theorem d_O_reason_166 : decode b_O_reason 166 = .ok (.getfield 13, 3) := by decide +kernel
theorem d_O_reason_169 : decode b_O_reason 169 = .ok (.iload_n 3, 1) := by decide +kernel
theorem d_O_reason_170 : decode b_O_reason 170 = .ok (.iaload, 1) := by decide +kernel
theorem d_O_reason_171 : decode b_O_reason 171 = .ok (.invokevirtual 97, 3) := by decide +kernel
theorem d_O_reason_174 : decode b_O_reason 174 = .ok (.ifCond .ne 11, 3) := by decide +kernel
theorem d_O_reason_177 : decode b_O_reason 177 = .ok (.iload_n 2, 1) := by decide +kernel
theorem d_O_reason_178 : decode b_O_reason 178 = .ok (.iconst 2, 1) := by decide +kernel
theorem d_O_reason_179 : decode b_O_reason 179 = .ok (.iload_n 3, 1) := by decide +kernel
theorem d_O_reason_180 : decode b_O_reason 180 = .ok (.ishl, 1) := by decide +kernel
theorem d_O_reason_181 : decode b_O_reason 181 = .ok (.iconst 1, 1) := by decide +kernel
theorem d_O_reason_182 : decode b_O_reason 182 = .ok (.isub, 1) := by decide +kernel
theorem d_O_reason_183 : decode b_O_reason 183 = .ok (.iand, 1) := by decide +kernel
theorem d_O_reason_184 : decode b_O_reason 184 = .ok (.ireturn, 1) := by decide +kernel
theorem d_O_reason_185 : decode b_O_reason 185 = .ok (.iinc 3 1, 3) := by decide +kernel
theorem d_O_reason_188 : decode b_O_reason 188 = .ok (.goto (-128), 3) := by decide +kernel
theorem d_O_reason_191 : decode b_O_reason 191 = .ok (.iload_n 2, 1) := by decide +kernel
theorem d_O_reason_192 : decode b_O_reason 192 = .ok (.ireturn, 1) := by decide +kernel
theorem d_O_found_0 : decode b_O_found 0 = .ok (.aload_n 0, 1) := by decide +kernel
theorem d_O_found_1 : decode b_O_found 1 = .ok (.iload_n 1, 1) := by decide +kernel
theorem d_O_found_2 : decode b_O_found 2 = .ok (.putfield 29, 3) := by decide +kernel
theorem d_O_found_5 : decode b_O_found 5 = .ok (.bipush (-10), 2) := by decide +kernel
theorem d_O_found_7 : decode b_O_found 7 = .ok (.iload_n 1, 1) := by decide +kernel
theorem d_O_found_8 : decode b_O_found 8 = .ok (.isub, 1) := by decide +kernel
theorem d_O_found_9 : decode b_O_found 9 = .ok (.ireturn, 1) := by decide +kernel
theorem d_O_isSheet_0 : decode b_O_isSheet 0 = .ok (.iload_n 0, 1) := by decide +kernel
theorem d_O_isSheet_1 : decode b_O_isSheet 1 = .ok (.ifCond .lt 12, 3) := by decide +kernel
theorem d_O_isSheet_4 : decode b_O_isSheet 4 = .ok (.iload_n 0, 1) := by decide +kernel
theorem d_O_isSheet_5 : decode b_O_isSheet 5 = .ok (.iconst 4, 1) := by decide +kernel
theorem d_O_isSheet_6 : decode b_O_isSheet 6 = .ok (.if_icmp .ge 7, 3) := by decide +kernel
theorem d_O_isSheet_9 : decode b_O_isSheet 9 = .ok (.iconst 1, 1) := by decide +kernel
theorem d_O_isSheet_10 : decode b_O_isSheet 10 = .ok (.goto 4, 3) := by decide +kernel
theorem d_O_isSheet_13 : decode b_O_isSheet 13 = .ok (.iconst 0, 1) := by decide +kernel
theorem d_O_isSheet_14 : decode b_O_isSheet 14 = .ok (.ireturn, 1) := by decide +kernel
theorem d_O_read_0 : decode b_O_read 0 = .ok (.iload_n 1, 1) := by decide +kernel
theorem d_O_read_1 : decode b_O_read 1 = .ok (.invokestatic 104, 3) := by decide +kernel
theorem d_O_read_4 : decode b_O_read 4 = .ok (.ifCond .ne 6, 3) := by decide +kernel
theorem d_O_read_7 : decode b_O_read 7 = .ok (.bipush (-2), 2) := by decide +kernel
theorem d_O_read_9 : decode b_O_read 9 = .ok (.ireturn, 1) := by decide +kernel
theorem d_O_read_10 : decode b_O_read 10 = .ok (.aload_n 0, 1) := by decide +kernel
theorem d_O_read_11 : decode b_O_read 11 = .ok (.getfield 35, 3) := by decide +kernel
theorem d_O_read_14 : decode b_O_read 14 = .ok (.iload_n 1, 1) := by decide +kernel
theorem d_O_read_15 : decode b_O_read 15 = .ok (.invokevirtual 107, 3) := by decide +kernel
theorem d_O_read_18 : decode b_O_read 18 = .ok (.ifCond .eq 9, 3) := by decide +kernel
theorem d_O_read_21 : decode b_O_read 21 = .ok (.aload_n 0, 1) := by decide +kernel
theorem d_O_read_22 : decode b_O_read 22 = .ok (.iconst 1, 1) := by decide +kernel
theorem d_O_read_23 : decode b_O_read 23 = .ok (.invokevirtual 110, 3) := by decide +kernel
theorem d_O_read_26 : decode b_O_read 26 = .ok (.ireturn, 1) := by decide +kernel
theorem d_O_read_27 : decode b_O_read 27 = .ok (.iconst 0, 1) := by decide +kernel
theorem d_O_read_28 : decode b_O_read 28 = .ok (.istore_n 2, 1) := by decide +kernel
theorem d_O_read_29 : decode b_O_read 29 = .ok (.aload_n 0, 1) := by decide +kernel
theorem d_O_read_30 : decode b_O_read 30 = .ok (.getfield 35, 3) := by decide +kernel
theorem d_O_read_33 : decode b_O_read 33 = .ok (.iload_n 1, 1) := by decide +kernel
theorem d_O_read_34 : decode b_O_read 34 = .ok (.invokevirtual 113, 3) := by decide +kernel
theorem d_O_read_37 : decode b_O_read 37 = .ok (.istore_n 3, 1) := by decide +kernel
theorem d_O_read_38 : decode b_O_read 38 = .ok (.iload_n 2, 1) := by decide +kernel
theorem d_O_read_39 : decode b_O_read 39 = .ok (.iload_n 3, 1) := by decide +kernel
theorem d_O_read_40 : decode b_O_read 40 = .ok (.if_icmp .ge 25, 3) := by decide +kernel
theorem d_O_read_43 : decode b_O_read 43 = .ok (.aload_n 0, 1) := by decide +kernel
theorem d_O_read_44 : decode b_O_read 44 = .ok (.aload_n 0, 1) := by decide +kernel
theorem d_O_read_45 : decode b_O_read 45 = .ok (.getfield 35, 3) := by decide +kernel
theorem d_O_read_48 : decode b_O_read 48 = .ok (.iload_n 1, 1) := by decide +kernel
theorem d_O_read_49 : decode b_O_read 49 = .ok (.iload_n 2, 1) := by decide +kernel
theorem d_O_read_50 : decode b_O_read 50 = .ok (.invokevirtual 116, 3) := by decide +kernel
theorem d_O_read_53 : decode b_O_read 53 = .ok (.invokevirtual 120, 3) := by decide +kernel
theorem d_O_read_56 : decode b_O_read 56 = .ok (.ifCond .lt 9, 3) := by decide +kernel
theorem d_O_read_59 : decode b_O_read 59 = .ok (.iinc 2 1, 3) := by decide +kernel
theorem d_O_read_62 : decode b_O_read 62 = .ok (.goto (-24), 3) := by decide +kernel
theorem d_O_read_65 : decode b_O_read 65 = .ok (.iload_n 2, 1) := by decide +kernel
theorem d_O_read_66 : decode b_O_read 66 = .ok (.ireturn, 1) := by decide +kernel
theorem d_O_many_0 : decode b_O_many 0 = .ok (.aload_n 0, 1) := by decide +kernel
theorem d_O_many_1 : decode b_O_many 1 = .ok (.getfield 42, 3) := by decide +kernel
theorem d_O_many_4 : decode b_O_many 4 = .ok (.invokevirtual 123, 3) := by decide +kernel
theorem d_O_many_7 : decode b_O_many 7 = .ok (.lreturn, 1) := by decide +kernel
theorem d_O_tree_0 : decode b_O_tree 0 = .ok (.iload_n 1, 1) := by decide +kernel
theorem d_O_tree_1 : decode b_O_tree 1 = .ok (.iconst (-1), 1) := by decide +kernel
theorem d_O_tree_2 : decode b_O_tree 2 = .ok (.if_icmp .lt 9, 3) := by decide +kernel
theorem d_O_tree_5 : decode b_O_tree 5 = .ok (.iload_n 1, 1) := by decide +kernel
theorem d_O_tree_6 : decode b_O_tree 6 = .ok (.bipush 40, 2) := by decide +kernel
theorem d_O_tree_8 : decode b_O_tree 8 = .ok (.if_icmp .lt 6, 3) := by decide +kernel
theorem d_O_tree_11 : decode b_O_tree 11 = .ok (.bipush (-2), 2) := by decide +kernel
theorem d_O_tree_13 : decode b_O_tree 13 = .ok (.ireturn, 1) := by decide +kernel
theorem d_O_tree_14 : decode b_O_tree 14 = .ok (.iload_n 1, 1) := by decide +kernel
theorem d_O_tree_15 : decode b_O_tree 15 = .ok (.iconst (-1), 1) := by decide +kernel
theorem d_O_tree_16 : decode b_O_tree 16 = .ok (.if_icmp .ne 8, 3) := by decide +kernel
theorem d_O_tree_19 : decode b_O_tree 19 = .ok (.aload_n 0, 1) := by decide +kernel
theorem d_O_tree_20 : decode b_O_tree 20 = .ok (.getfield 49, 3) := by decide +kernel
theorem d_O_tree_23 : decode b_O_tree 23 = .ok (.ireturn, 1) := by decide +kernel
theorem d_O_tree_24 : decode b_O_tree 24 = .ok (.iload_n 1, 1) := by decide +kernel
theorem d_O_tree_25 : decode b_O_tree 25 = .ok (.aload_n 0, 1) := by decide +kernel
theorem d_O_tree_26 : decode b_O_tree 26 = .ok (.getfield 49, 3) := by decide +kernel
theorem d_O_tree_29 : decode b_O_tree 29 = .ok (.if_icmp .ge 12, 3) := by decide +kernel
theorem d_O_tree_32 : decode b_O_tree 32 = .ok (.aload_n 0, 1) := by decide +kernel
theorem d_O_tree_33 : decode b_O_tree 33 = .ok (.getfield 46, 3) := by decide +kernel
theorem d_O_tree_36 : decode b_O_tree 36 = .ok (.iload_n 1, 1) := by decide +kernel
theorem d_O_tree_37 : decode b_O_tree 37 = .ok (.iaload, 1) := by decide +kernel
theorem d_O_tree_38 : decode b_O_tree 38 = .ok (.goto 4, 3) := by decide +kernel
theorem d_O_tree_41 : decode b_O_tree 41 = .ok (.iconst (-1), 1) := by decide +kernel
theorem d_O_tree_42 : decode b_O_tree 42 = .ok (.ireturn, 1) := by decide +kernel
theorem d_O_node_0 : decode b_O_node 0 = .ok (.iload_n 1, 1) := by decide +kernel
theorem d_O_node_1 : decode b_O_node 1 = .ok (.ifCond .lt 18, 3) := by decide +kernel
theorem d_O_node_4 : decode b_O_node 4 = .ok (.iload_n 1, 1) := by decide +kernel
theorem d_O_node_5 : decode b_O_node 5 = .ok (.bipush 7, 2) := by decide +kernel
theorem d_O_node_7 : decode b_O_node 7 = .ok (.if_icmp .ge 12, 3) := by decide +kernel
theorem d_O_node_10 : decode b_O_node 10 = .ok (.iload_n 2, 1) := by decide +kernel
theorem d_O_node_11 : decode b_O_node 11 = .ok (.ifCond .lt 8, 3) := by decide +kernel
theorem d_O_node_14 : decode b_O_node 14 = .ok (.iload_n 2, 1) := by decide +kernel
theorem d_O_node_15 : decode b_O_node 15 = .ok (.iconst 2, 1) := by decide +kernel
theorem d_O_node_16 : decode b_O_node 16 = .ok (.if_icmp .le 6, 3) := by decide +kernel
theorem d_O_node_19 : decode b_O_node 19 = .ok (.bipush (-2), 2) := by decide +kernel
theorem d_O_node_21 : decode b_O_node 21 = .ok (.ireturn, 1) := by decide +kernel
theorem d_O_node_22 : decode b_O_node 22 = .ok (.iload_n 1, 1) := by decide +kernel
theorem d_O_node_23 : decode b_O_node 23 = .ok (.aload_n 0, 1) := by decide +kernel
theorem d_O_node_24 : decode b_O_node 24 = .ok (.getfield 42, 3) := by decide +kernel
theorem d_O_node_27 : decode b_O_node 27 = .ok (.invokevirtual 127, 3) := by decide +kernel
theorem d_O_node_30 : decode b_O_node 30 = .ok (.if_icmp .lt 5, 3) := by decide +kernel
theorem d_O_node_33 : decode b_O_node 33 = .ok (.iconst (-1), 1) := by decide +kernel
theorem d_O_node_34 : decode b_O_node 34 = .ok (.ireturn, 1) := by decide +kernel
theorem d_O_node_35 : decode b_O_node 35 = .ok (.iload_n 2, 1) := by decide +kernel
theorem d_O_node_36 : decode b_O_node 36 = .ok (.ifCond .ne 20, 3) := by decide +kernel
theorem d_O_node_39 : decode b_O_node 39 = .ok (.aload_n 0, 1) := by decide +kernel
theorem d_O_node_40 : decode b_O_node 40 = .ok (.getfield 42, 3) := by decide +kernel
theorem d_O_node_43 : decode b_O_node 43 = .ok (.iload_n 1, 1) := by decide +kernel
theorem d_O_node_44 : decode b_O_node 44 = .ok (.invokevirtual 131, 3) := by decide +kernel
theorem d_O_node_47 : decode b_O_node 47 = .ok (.ifCond .eq 7, 3) := by decide +kernel
theorem d_O_node_50 : decode b_O_node 50 = .ok (.iconst 1, 1) := by decide +kernel
theorem d_O_node_51 : decode b_O_node 51 = .ok (.goto 4, 3) := by decide +kernel
theorem d_O_node_54 : decode b_O_node 54 = .ok (.iconst 0, 1) := by decide +kernel
theorem d_O_node_55 : decode b_O_node 55 = .ok (.ireturn, 1) := by decide +kernel
theorem d_O_node_56 : decode b_O_node 56 = .ok (.iload_n 2, 1) := by decide +kernel
theorem d_O_node_57 : decode b_O_node 57 = .ok (.iconst 1, 1) := by decide +kernel
theorem d_O_node_58 : decode b_O_node 58 = .ok (.if_icmp .ne 14, 3) := by decide +kernel
theorem d_O_node_61 : decode b_O_node 61 = .ok (.aload_n 0, 1) := by decide +kernel
theorem d_O_node_62 : decode b_O_node 62 = .ok (.getfield 42, 3) := by decide +kernel
theorem d_O_node_65 : decode b_O_node 65 = .ok (.iload_n 1, 1) := by decide +kernel
theorem d_O_node_66 : decode b_O_node 66 = .ok (.invokevirtual 134, 3) := by decide +kernel
theorem d_O_node_69 : decode b_O_node 69 = .ok (.goto 11, 3) := by decide +kernel
theorem d_O_node_72 : decode b_O_node 72 = .ok (.aload_n 0, 1) := by decide +kernel
theorem d_O_node_73 : decode b_O_node 73 = .ok (.getfield 42, 3) := by decide +kernel
theorem d_O_node_76 : decode b_O_node 76 = .ok (.iload_n 1, 1) := by decide +kernel
theorem d_O_node_77 : decode b_O_node 77 = .ok (.invokevirtual 137, 3) := by decide +kernel
theorem d_O_node_80 : decode b_O_node 80 = .ok (.ireturn, 1) := by decide +kernel
theorem d_O_isRowNumber_0 : decode b_O_isRowNumber 0 = .ok (.iload_n 0, 1) := by decide +kernel
theorem d_O_isRowNumber_1 : decode b_O_isRowNumber 1 = .ok (.ifCond .lt 13, 3) := by decide +kernel
theorem d_O_isRowNumber_4 : decode b_O_isRowNumber 4 = .ok (.iload_n 0, 1) := by decide +kernel
theorem d_O_isRowNumber_5 : decode b_O_isRowNumber 5 = .ok (.ldc 255, 2) := by decide +kernel
theorem d_O_isRowNumber_7 : decode b_O_isRowNumber 7 = .ok (.if_icmp .ge 7, 3) := by decide +kernel
theorem d_O_isRowNumber_10 : decode b_O_isRowNumber 10 = .ok (.iconst 1, 1) := by decide +kernel
theorem d_O_isRowNumber_11 : decode b_O_isRowNumber 11 = .ok (.goto 4, 3) := by decide +kernel
theorem d_O_isRowNumber_14 : decode b_O_isRowNumber 14 = .ok (.iconst 0, 1) := by decide +kernel
theorem d_O_isRowNumber_15 : decode b_O_isRowNumber 15 = .ok (.ireturn, 1) := by decide +kernel
theorem d_O_row_0 : decode b_O_row 0 = .ok (.iload_n 1, 1) := by decide +kernel
theorem d_O_row_1 : decode b_O_row 1 = .ok (.invokestatic 140, 3) := by decide +kernel
theorem d_O_row_4 : decode b_O_row 4 = .ok (.ifCond .eq 13, 3) := by decide +kernel
theorem d_O_row_7 : decode b_O_row 7 = .ok (.iload_n 2, 1) := by decide +kernel
theorem d_O_row_8 : decode b_O_row 8 = .ok (.ifCond .lt 9, 3) := by decide +kernel
theorem d_O_row_11 : decode b_O_row 11 = .ok (.iload_n 2, 1) := by decide +kernel
theorem d_O_row_12 : decode b_O_row 12 = .ok (.bipush 8, 2) := by decide +kernel
theorem d_O_row_14 : decode b_O_row 14 = .ok (.if_icmp .lt 6, 3) := by decide +kernel
theorem d_O_row_17 : decode b_O_row 17 = .ok (.bipush (-2), 2) := by decide +kernel
theorem d_O_row_19 : decode b_O_row 19 = .ok (.ireturn, 1) := by decide +kernel
theorem d_O_row_20 : decode b_O_row 20 = .ok (.iload_n 1, 1) := by decide +kernel
theorem d_O_row_21 : decode b_O_row 21 = .ok (.i2l, 1) := by decide +kernel
theorem d_O_row_22 : decode b_O_row 22 = .ok (.aload_n 0, 1) := by decide +kernel
theorem d_O_row_23 : decode b_O_row 23 = .ok (.getfield 42, 3) := by decide +kernel
theorem d_O_row_26 : decode b_O_row 26 = .ok (.invokevirtual 123, 3) := by decide +kernel
theorem d_O_row_29 : decode b_O_row 29 = .ok (.lcmp, 1) := by decide +kernel
theorem d_O_row_30 : decode b_O_row 30 = .ok (.ifCond .ge 11, 3) := by decide +kernel
theorem d_O_row_33 : decode b_O_row 33 = .ok (.iload_n 2, 1) := by decide +kernel
theorem d_O_row_34 : decode b_O_row 34 = .ok (.aload_n 0, 1) := by decide +kernel
theorem d_O_row_35 : decode b_O_row 35 = .ok (.getfield 9, 3) := by decide +kernel
theorem d_O_row_38 : decode b_O_row 38 = .ok (.if_icmp .lt 5, 3) := by decide +kernel
theorem d_O_row_41 : decode b_O_row 41 = .ok (.iconst (-1), 1) := by decide +kernel
theorem d_O_row_42 : decode b_O_row 42 = .ok (.ireturn, 1) := by decide +kernel
theorem d_O_row_43 : decode b_O_row 43 = .ok (.aload_n 0, 1) := by decide +kernel
theorem d_O_row_44 : decode b_O_row 44 = .ok (.getfield 42, 3) := by decide +kernel
theorem d_O_row_47 : decode b_O_row 47 = .ok (.iload_n 1, 1) := by decide +kernel
theorem d_O_row_48 : decode b_O_row 48 = .ok (.aload_n 0, 1) := by decide +kernel
theorem d_O_row_49 : decode b_O_row 49 = .ok (.getfield 58, 3) := by decide +kernel
theorem d_O_row_52 : decode b_O_row 52 = .ok (.invokevirtual 143, 3) := by decide +kernel
theorem d_O_row_55 : decode b_O_row 55 = .ok (.aload_n 0, 1) := by decide +kernel
theorem d_O_row_56 : decode b_O_row 56 = .ok (.getfield 58, 3) := by decide +kernel
theorem d_O_row_59 : decode b_O_row 59 = .ok (.iload_n 2, 1) := by decide +kernel
theorem d_O_row_60 : decode b_O_row 60 = .ok (.iaload, 1) := by decide +kernel
theorem d_O_row_61 : decode b_O_row 61 = .ok (.ireturn, 1) := by decide +kernel
theorem d_O_isSetOfThings_0 : decode b_O_isSetOfThings 0 = .ok (.iload_n 1, 1) := by decide +kernel
theorem d_O_isSetOfThings_1 : decode b_O_isSetOfThings 1 = .ok (.invokestatic 67, 3) := by decide +kernel
theorem d_O_isSetOfThings_4 : decode b_O_isSetOfThings 4 = .ok (.ifCond .eq 16, 3) := by decide +kernel
theorem d_O_isSetOfThings_7 : decode b_O_isSetOfThings 7 = .ok (.iload_n 1, 1) := by decide +kernel
theorem d_O_isSetOfThings_8 : decode b_O_isSetOfThings 8 = .ok (.aload_n 0, 1) := by decide +kernel
theorem d_O_isSetOfThings_9 : decode b_O_isSetOfThings 9 = .ok (.getfield 9, 3) := by decide +kernel
theorem d_O_isSetOfThings_12 : decode b_O_isSetOfThings 12 = .ok (.ishr, 1) := by decide +kernel
theorem d_O_isSetOfThings_13 : decode b_O_isSetOfThings 13 = .ok (.ifCond .ne 7, 3) := by decide +kernel
theorem d_O_isSetOfThings_16 : decode b_O_isSetOfThings 16 = .ok (.iconst 1, 1) := by decide +kernel
theorem d_O_isSetOfThings_17 : decode b_O_isSetOfThings 17 = .ok (.goto 4, 3) := by decide +kernel
theorem d_O_isSetOfThings_20 : decode b_O_isSetOfThings 20 = .ok (.iconst 0, 1) := by decide +kernel
theorem d_O_isSetOfThings_21 : decode b_O_isSetOfThings 21 = .ok (.ireturn, 1) := by decide +kernel
theorem d_O_may_0 : decode b_O_may 0 = .ok (.aload_n 0, 1) := by decide +kernel
theorem d_O_may_1 : decode b_O_may 1 = .ok (.iload_n 1, 1) := by decide +kernel
theorem d_O_may_2 : decode b_O_may 2 = .ok (.invokevirtual 147, 3) := by decide +kernel
theorem d_O_may_5 : decode b_O_may 5 = .ok (.ifCond .ne 6, 3) := by decide +kernel
theorem d_O_may_8 : decode b_O_may 8 = .ok (.bipush (-2), 2) := by decide +kernel
theorem d_O_may_10 : decode b_O_may 10 = .ok (.ireturn, 1) := by decide +kernel
theorem d_O_may_11 : decode b_O_may 11 = .ok (.aload_n 0, 1) := by decide +kernel
theorem d_O_may_12 : decode b_O_may 12 = .ok (.getfield 55, 3) := by decide +kernel
theorem d_O_may_15 : decode b_O_may 15 = .ok (.aload_n 0, 1) := by decide +kernel
theorem d_O_may_16 : decode b_O_may 16 = .ok (.getfield 42, 3) := by decide +kernel
theorem d_O_may_19 : decode b_O_may 19 = .ok (.invokevirtual 100, 3) := by decide +kernel
theorem d_O_may_22 : decode b_O_may 22 = .ok (.aload_n 0, 1) := by decide +kernel
theorem d_O_may_23 : decode b_O_may 23 = .ok (.getfield 55, 3) := by decide +kernel
theorem d_O_may_26 : decode b_O_may 26 = .ok (.iload_n 1, 1) := by decide +kernel
theorem d_O_may_27 : decode b_O_may 27 = .ok (.invokevirtual 97, 3) := by decide +kernel
theorem d_O_may_30 : decode b_O_may 30 = .ok (.ifCond .eq 7, 3) := by decide +kernel
theorem d_O_may_33 : decode b_O_may 33 = .ok (.iconst 1, 1) := by decide +kernel
theorem d_O_may_34 : decode b_O_may 34 = .ok (.goto 4, 3) := by decide +kernel
theorem d_O_may_37 : decode b_O_may 37 = .ok (.iconst 0, 1) := by decide +kernel
theorem d_O_may_38 : decode b_O_may 38 = .ok (.ireturn, 1) := by decide +kernel
theorem d_O_must_0 : decode b_O_must 0 = .ok (.aload_n 0, 1) := by decide +kernel
theorem d_O_must_1 : decode b_O_must 1 = .ok (.iload_n 1, 1) := by decide +kernel
theorem d_O_must_2 : decode b_O_must 2 = .ok (.invokevirtual 147, 3) := by decide +kernel
theorem d_O_must_5 : decode b_O_must 5 = .ok (.ifCond .ne 6, 3) := by decide +kernel
theorem d_O_must_8 : decode b_O_must 8 = .ok (.bipush (-2), 2) := by decide +kernel
theorem d_O_must_10 : decode b_O_must 10 = .ok (.ireturn, 1) := by decide +kernel
theorem d_O_must_11 : decode b_O_must 11 = .ok (.aload_n 0, 1) := by decide +kernel
theorem d_O_must_12 : decode b_O_must 12 = .ok (.getfield 55, 3) := by decide +kernel
theorem d_O_must_15 : decode b_O_must 15 = .ok (.aload_n 0, 1) := by decide +kernel
theorem d_O_must_16 : decode b_O_must 16 = .ok (.getfield 42, 3) := by decide +kernel
theorem d_O_must_19 : decode b_O_must 19 = .ok (.invokevirtual 100, 3) := by decide +kernel
theorem d_O_must_22 : decode b_O_must 22 = .ok (.aload_n 0, 1) := by decide +kernel
theorem d_O_must_23 : decode b_O_must 23 = .ok (.getfield 55, 3) := by decide +kernel
theorem d_O_must_26 : decode b_O_must 26 = .ok (.iload_n 1, 1) := by decide +kernel
theorem d_O_must_27 : decode b_O_must 27 = .ok (.invokevirtual 97, 3) := by decide +kernel
theorem d_O_must_30 : decode b_O_must 30 = .ok (.ifCond .eq 25, 3) := by decide +kernel
theorem d_O_must_33 : decode b_O_must 33 = .ok (.aload_n 0, 1) := by decide +kernel
theorem d_O_must_34 : decode b_O_must 34 = .ok (.getfield 55, 3) := by decide +kernel
theorem d_O_must_37 : decode b_O_must 37 = .ok (.invokevirtual 123, 3) := by decide +kernel
theorem d_O_must_40 : decode b_O_must 40 = .ok (.aload_n 0, 1) := by decide +kernel
theorem d_O_must_41 : decode b_O_must 41 = .ok (.getfield 42, 3) := by decide +kernel
theorem d_O_must_44 : decode b_O_must 44 = .ok (.invokevirtual 123, 3) := by decide +kernel
theorem d_O_must_47 : decode b_O_must 47 = .ok (.lcmp, 1) := by decide +kernel
theorem d_O_must_48 : decode b_O_must 48 = .ok (.ifCond .ne 7, 3) := by decide +kernel
theorem d_O_must_51 : decode b_O_must 51 = .ok (.iconst 1, 1) := by decide +kernel
theorem d_O_must_52 : decode b_O_must 52 = .ok (.goto 4, 3) := by decide +kernel
theorem d_O_must_55 : decode b_O_must 55 = .ok (.iconst 0, 1) := by decide +kernel
theorem d_O_must_56 : decode b_O_must 56 = .ok (.ireturn, 1) := by decide +kernel
theorem d_O_isThing_0 : decode b_O_isThing 0 = .ok (.iload_n 1, 1) := by decide +kernel
theorem d_O_isThing_1 : decode b_O_isThing 1 = .ok (.ifCond .lt 15, 3) := by decide +kernel
theorem d_O_isThing_4 : decode b_O_isThing 4 = .ok (.iload_n 1, 1) := by decide +kernel
theorem d_O_isThing_5 : decode b_O_isThing 5 = .ok (.aload_n 0, 1) := by decide +kernel
theorem d_O_isThing_6 : decode b_O_isThing 6 = .ok (.getfield 9, 3) := by decide +kernel
theorem d_O_isThing_9 : decode b_O_isThing 9 = .ok (.if_icmp .ge 7, 3) := by decide +kernel
theorem d_O_isThing_12 : decode b_O_isThing 12 = .ok (.iconst 1, 1) := by decide +kernel
theorem d_O_isThing_13 : decode b_O_isThing 13 = .ok (.goto 4, 3) := by decide +kernel
theorem d_O_isThing_16 : decode b_O_isThing 16 = .ok (.iconst 0, 1) := by decide +kernel
theorem d_O_isThing_17 : decode b_O_isThing 17 = .ok (.ireturn, 1) := by decide +kernel
theorem d_O_apart_0 : decode b_O_apart 0 = .ok (.aload_n 0, 1) := by decide +kernel
theorem d_O_apart_1 : decode b_O_apart 1 = .ok (.iload_n 1, 1) := by decide +kernel
theorem d_O_apart_2 : decode b_O_apart 2 = .ok (.invokevirtual 150, 3) := by decide +kernel
theorem d_O_apart_5 : decode b_O_apart 5 = .ok (.ifCond .eq 25, 3) := by decide +kernel
theorem d_O_apart_8 : decode b_O_apart 8 = .ok (.aload_n 0, 1) := by decide +kernel
theorem d_O_apart_9 : decode b_O_apart 9 = .ok (.iload_n 2, 1) := by decide +kernel
theorem d_O_apart_10 : decode b_O_apart 10 = .ok (.invokevirtual 150, 3) := by decide +kernel
theorem d_O_apart_13 : decode b_O_apart 13 = .ok (.ifCond .eq 17, 3) := by decide +kernel
theorem d_O_apart_16 : decode b_O_apart 16 = .ok (.iload_n 1, 1) := by decide +kernel
theorem d_O_apart_17 : decode b_O_apart 17 = .ok (.iload_n 2, 1) := by decide +kernel
theorem d_O_apart_18 : decode b_O_apart 18 = .ok (.if_icmp .eq 12, 3) := by decide +kernel
theorem d_O_apart_21 : decode b_O_apart 21 = .ok (.iload_n 3, 1) := by decide +kernel
theorem d_O_apart_22 : decode b_O_apart 22 = .ok (.ifCond .lt 8, 3) := by decide +kernel
theorem d_O_apart_25 : decode b_O_apart 25 = .ok (.iload_n 3, 1) := by decide +kernel
theorem d_O_apart_26 : decode b_O_apart 26 = .ok (.iconst 1, 1) := by decide +kernel
theorem d_O_apart_27 : decode b_O_apart 27 = .ok (.if_icmp .le 6, 3) := by decide +kernel
theorem d_O_apart_30 : decode b_O_apart 30 = .ok (.bipush (-2), 2) := by decide +kernel
theorem d_O_apart_32 : decode b_O_apart 32 = .ok (.ireturn, 1) := by decide +kernel
theorem d_O_apart_33 : decode b_O_apart 33 = .ok (.aload_n 0, 1) := by decide +kernel
theorem d_O_apart_34 : decode b_O_apart 34 = .ok (.getfield 42, 3) := by decide +kernel
theorem d_O_apart_37 : decode b_O_apart 37 = .ok (.iload_n 1, 1) := by decide +kernel
theorem d_O_apart_38 : decode b_O_apart 38 = .ok (.iload_n 2, 1) := by decide +kernel
theorem d_O_apart_39 : decode b_O_apart 39 = .ok (.iload_n 3, 1) := by decide +kernel
theorem d_O_apart_40 : decode b_O_apart 40 = .ok (.iconst 1, 1) := by decide +kernel
theorem d_O_apart_41 : decode b_O_apart 41 = .ok (.if_icmp .ne 7, 3) := by decide +kernel
theorem d_O_apart_44 : decode b_O_apart 44 = .ok (.iconst 1, 1) := by decide +kernel
theorem d_O_apart_45 : decode b_O_apart 45 = .ok (.goto 4, 3) := by decide +kernel
theorem d_O_apart_48 : decode b_O_apart 48 = .ok (.iconst 0, 1) := by decide +kernel
theorem d_O_apart_49 : decode b_O_apart 49 = .ok (.invokevirtual 153, 3) := by decide +kernel
theorem d_O_apart_52 : decode b_O_apart 52 = .ok (.ireturn, 1) := by decide +kernel
theorem d_O_spare_0 : decode b_O_spare 0 = .ok (.iconst 0, 1) := by decide +kernel
theorem d_O_spare_1 : decode b_O_spare 1 = .ok (.istore_n 1, 1) := by decide +kernel
theorem d_O_spare_2 : decode b_O_spare 2 = .ok (.aload_n 0, 1) := by decide +kernel
theorem d_O_spare_3 : decode b_O_spare 3 = .ok (.getfield 42, 3) := by decide +kernel
theorem d_O_spare_6 : decode b_O_spare 6 = .ok (.invokevirtual 123, 3) := by decide +kernel
theorem d_O_spare_9 : decode b_O_spare 9 = .ok (.lstore_n 2, 1) := by decide +kernel
theorem d_O_spare_10 : decode b_O_spare 10 = .ok (.aload_n 0, 1) := by decide +kernel
theorem d_O_spare_11 : decode b_O_spare 11 = .ok (.getfield 52, 3) := by decide +kernel
theorem d_O_spare_14 : decode b_O_spare 14 = .ok (.aload_n 0, 1) := by decide +kernel
theorem d_O_spare_15 : decode b_O_spare 15 = .ok (.getfield 9, 3) := by decide +kernel
theorem d_O_spare_18 : decode b_O_spare 18 = .ok (.invokevirtual 94, 3) := by decide +kernel
theorem d_O_spare_21 : decode b_O_spare 21 = .ok (.iconst 0, 1) := by decide +kernel
theorem d_O_spare_22 : decode b_O_spare 22 = .ok (.istore 4, 2) := by decide +kernel
theorem d_O_spare_24 : decode b_O_spare 24 = .ok (.iload 4, 2) := by decide +kernel
theorem d_O_spare_26 : decode b_O_spare 26 = .ok (.aload_n 0, 1) := by decide +kernel
theorem d_O_spare_27 : decode b_O_spare 27 = .ok (.getfield 17, 3) := by decide +kernel
theorem d_O_spare_30 : decode b_O_spare 30 = .ok (.if_icmp .ge 111, 3) := by decide +kernel
theorem d_O_spare_33 : decode b_O_spare 33 = .ok (.aload_n 0, 1) := by decide +kernel
theorem d_O_spare_34 : decode b_O_spare 34 = .ok (.iload 4, 2) := by decide +kernel
theorem d_O_spare_36 : decode b_O_spare 36 = .ok (.invokevirtual 91, 3) := by decide +kernel
theorem d_O_spare_39 : decode b_O_spare 39 = .ok (.ifCond .ne 6, 3) := by decide +kernel
theorem d_O_spare_42 : decode b_O_spare 42 = .ok (.goto 93, 3) := by decide +kernel
theorem d_O_spare_45 : decode b_O_spare 45 = .ok (.aload_n 0, 1) := by decide +kernel
theorem d_O_spare_46 : decode b_O_spare 46 = .ok (.getfield 55, 3) := by decide +kernel
theorem d_O_spare_49 : decode b_O_spare 49 = .ok (.aload_n 0, 1) := by decide +kernel
theorem d_O_spare_50 : decode b_O_spare 50 = .ok (.getfield 52, 3) := by decide +kernel
theorem d_O_spare_53 : decode b_O_spare 53 = .ok (.invokevirtual 100, 3) := by decide +kernel
theorem d_O_spare_56 : decode b_O_spare 56 = .ok (.iload 4, 2) := by decide +kernel
theorem d_O_spare_58 : decode b_O_spare 58 = .ok (.iconst 1, 1) := by decide +kernel
theorem d_O_spare_59 : decode b_O_spare 59 = .ok (.iadd, 1) := by decide +kernel
theorem d_O_spare_60 : decode b_O_spare 60 = .ok (.istore 5, 2) := by decide +kernel
theorem d_O_spare_62 : decode b_O_spare 62 = .ok (.iload 5, 2) := by decide +kernel
theorem d_O_spare_64 : decode b_O_spare 64 = .ok (.aload_n 0, 1) := by decide +kernel
theorem d_O_spare_65 : decode b_O_spare 65 = .ok (.getfield 17, 3) := by decide +kernel
theorem d_O_spare_68 : decode b_O_spare 68 = .ok (.if_icmp .ge 33, 3) := by decide +kernel
theorem d_O_spare_71 : decode b_O_spare 71 = .ok (.aload_n 0, 1) := by decide +kernel
theorem d_O_spare_72 : decode b_O_spare 72 = .ok (.iload 5, 2) := by decide +kernel
theorem d_O_spare_74 : decode b_O_spare 74 = .ok (.invokevirtual 91, 3) := by decide +kernel
theorem d_O_spare_77 : decode b_O_spare 77 = .ok (.ifCond .eq 18, 3) := by decide +kernel
theorem d_O_spare_80 : decode b_O_spare 80 = .ok (.aload_n 0, 1) := by decide +kernel
theorem d_O_spare_81 : decode b_O_spare 81 = .ok (.getfield 55, 3) := by decide +kernel
theorem d_O_spare_84 : decode b_O_spare 84 = .ok (.aload_n 0, 1) := by decide +kernel
theorem d_O_spare_85 : decode b_O_spare 85 = .ok (.getfield 13, 3) := by decide +kernel
theorem d_O_spare_88 : decode b_O_spare 88 = .ok (.iload 5, 2) := by decide +kernel
theorem d_O_spare_90 : decode b_O_spare 90 = .ok (.iaload, 1) := by decide +kernel
theorem d_O_spare_91 : decode b_O_spare 91 = .ok (.invokevirtual 97, 3) := by decide +kernel
theorem d_O_spare_94 : decode b_O_spare 94 = .ok (.pop, 1) := by decide +kernel
theorem d_O_spare_95 : decode b_O_spare 95 = .ok (.iinc 5 1, 3) := by decide +kernel
theorem d_O_spare_98 : decode b_O_spare 98 = .ok (.goto (-36), 3) := by decide +kernel
theorem d_O_spare_101 : decode b_O_spare 101 = .ok (.aload_n 0, 1) := by decide +kernel
theorem d_O_spare_102 : decode b_O_spare 102 = .ok (.getfield 55, 3) := by decide +kernel
theorem d_O_spare_105 : decode b_O_spare 105 = .ok (.invokevirtual 123, 3) := by decide +kernel
theorem d_O_spare_108 : decode b_O_spare 108 = .ok (.lload_n 2, 1) := by decide +kernel
theorem d_O_spare_109 : decode b_O_spare 109 = .ok (.lcmp, 1) := by decide +kernel
theorem d_O_spare_110 : decode b_O_spare 110 = .ok (.ifCond .ne 10, 3) := by decide +kernel
theorem d_O_spare_113 : decode b_O_spare 113 = .ok (.iload_n 1, 1) := by decide +kernel
theorem d_O_spare_114 : decode b_O_spare 114 = .ok (.iconst 1, 1) := by decide +kernel
theorem d_O_spare_115 : decode b_O_spare 115 = .ok (.iload 4, 2) := by decide +kernel
theorem d_O_spare_117 : decode b_O_spare 117 = .ok (.ishl, 1) := by decide +kernel
theorem d_O_spare_118 : decode b_O_spare 118 = .ok (.ior, 1) := by decide +kernel
theorem d_O_spare_119 : decode b_O_spare 119 = .ok (.istore_n 1, 1) := by decide +kernel
theorem d_O_spare_120 : decode b_O_spare 120 = .ok (.aload_n 0, 1) := by decide +kernel
theorem d_O_spare_121 : decode b_O_spare 121 = .ok (.getfield 52, 3) := by decide +kernel
theorem d_O_spare_124 : decode b_O_spare 124 = .ok (.aload_n 0, 1) := by decide +kernel
theorem d_O_spare_125 : decode b_O_spare 125 = .ok (.getfield 13, 3) := by decide +kernel
theorem d_O_spare_128 : decode b_O_spare 128 = .ok (.iload 4, 2) := by decide +kernel
theorem d_O_spare_130 : decode b_O_spare 130 = .ok (.iaload, 1) := by decide +kernel
theorem d_O_spare_131 : decode b_O_spare 131 = .ok (.invokevirtual 97, 3) := by decide +kernel
theorem d_O_spare_134 : decode b_O_spare 134 = .ok (.pop, 1) := by decide +kernel
theorem d_O_spare_135 : decode b_O_spare 135 = .ok (.iinc 4 1, 3) := by decide +kernel
theorem d_O_spare_138 : decode b_O_spare 138 = .ok (.goto (-114), 3) := by decide +kernel
theorem d_O_spare_141 : decode b_O_spare 141 = .ok (.iload_n 1, 1) := by decide +kernel
theorem d_O_spare_142 : decode b_O_spare 142 = .ok (.ireturn, 1) := by decide +kernel
theorem d_O_type_0 : decode b_O_type 0 = .ok (.iload_n 1, 1) := by decide +kernel
theorem d_O_type_1 : decode b_O_type 1 = .ok (.ifCond .lt 10, 3) := by decide +kernel
theorem d_O_type_4 : decode b_O_type 4 = .ok (.iload_n 1, 1) := by decide +kernel
theorem d_O_type_5 : decode b_O_type 5 = .ok (.sipush 256, 3) := by decide +kernel
theorem d_O_type_8 : decode b_O_type 8 = .ok (.if_icmp .lt 6, 3) := by decide +kernel
theorem d_O_type_11 : decode b_O_type 11 = .ok (.bipush (-2), 2) := by decide +kernel
theorem d_O_type_13 : decode b_O_type 13 = .ok (.ireturn, 1) := by decide +kernel
theorem d_O_type_14 : decode b_O_type 14 = .ok (.aload_n 0, 1) := by decide +kernel
theorem d_O_type_15 : decode b_O_type 15 = .ok (.getfield 26, 3) := by decide +kernel
theorem d_O_type_18 : decode b_O_type 18 = .ok (.bipush 8, 2) := by decide +kernel
theorem d_O_type_20 : decode b_O_type 20 = .ok (.if_icmp .lt 6, 3) := by decide +kernel
theorem d_O_type_23 : decode b_O_type 23 = .ok (.bipush (-4), 2) := by decide +kernel
theorem d_O_type_25 : decode b_O_type 25 = .ok (.ireturn, 1) := by decide +kernel
theorem d_O_type_26 : decode b_O_type 26 = .ok (.aload_n 0, 1) := by decide +kernel
theorem d_O_type_27 : decode b_O_type 27 = .ok (.getfield 23, 3) := by decide +kernel
theorem d_O_type_30 : decode b_O_type 30 = .ok (.aload_n 0, 1) := by decide +kernel
theorem d_O_type_31 : decode b_O_type 31 = .ok (.getfield 26, 3) := by decide +kernel
theorem d_O_type_34 : decode b_O_type 34 = .ok (.iload_n 1, 1) := by decide +kernel
theorem d_O_type_35 : decode b_O_type 35 = .ok (.iastore, 1) := by decide +kernel
theorem d_O_type_36 : decode b_O_type 36 = .ok (.aload_n 0, 1) := by decide +kernel
theorem d_O_type_37 : decode b_O_type 37 = .ok (.dup, 1) := by decide +kernel
theorem d_O_type_38 : decode b_O_type 38 = .ok (.getfield 26, 3) := by decide +kernel
theorem d_O_type_41 : decode b_O_type 41 = .ok (.iconst 1, 1) := by decide +kernel
theorem d_O_type_42 : decode b_O_type 42 = .ok (.iadd, 1) := by decide +kernel
theorem d_O_type_43 : decode b_O_type 43 = .ok (.putfield 26, 3) := by decide +kernel
theorem d_O_type_46 : decode b_O_type 46 = .ok (.aload_n 0, 1) := by decide +kernel
theorem d_O_type_47 : decode b_O_type 47 = .ok (.getfield 26, 3) := by decide +kernel
theorem d_O_type_50 : decode b_O_type 50 = .ok (.ireturn, 1) := by decide +kernel
theorem d_O_wipe_0 : decode b_O_wipe 0 = .ok (.aload_n 0, 1) := by decide +kernel
theorem d_O_wipe_1 : decode b_O_wipe 1 = .ok (.getfield 26, 3) := by decide +kernel
theorem d_O_wipe_4 : decode b_O_wipe 4 = .ok (.istore_n 1, 1) := by decide +kernel
theorem d_O_wipe_5 : decode b_O_wipe 5 = .ok (.aload_n 0, 1) := by decide +kernel
theorem d_O_wipe_6 : decode b_O_wipe 6 = .ok (.iconst 0, 1) := by decide +kernel
theorem d_O_wipe_7 : decode b_O_wipe 7 = .ok (.putfield 26, 3) := by decide +kernel
theorem d_O_wipe_10 : decode b_O_wipe 10 = .ok (.iload_n 1, 1) := by decide +kernel
theorem d_O_wipe_11 : decode b_O_wipe 11 = .ok (.ireturn, 1) := by decide +kernel
theorem d_O_undo_0 : decode b_O_undo 0 = .ok (.aload_n 0, 1) := by decide +kernel
theorem d_O_undo_1 : decode b_O_undo 1 = .ok (.getfield 26, 3) := by decide +kernel
theorem d_O_undo_4 : decode b_O_undo 4 = .ok (.iconst 1, 1) := by decide +kernel
theorem d_O_undo_5 : decode b_O_undo 5 = .ok (.if_icmp .ge 6, 3) := by decide +kernel
theorem d_O_undo_8 : decode b_O_undo 8 = .ok (.bipush (-3), 2) := by decide +kernel
theorem d_O_undo_10 : decode b_O_undo 10 = .ok (.ireturn, 1) := by decide +kernel
theorem d_O_undo_11 : decode b_O_undo 11 = .ok (.aload_n 0, 1) := by decide +kernel
theorem d_O_undo_12 : decode b_O_undo 12 = .ok (.dup, 1) := by decide +kernel
theorem d_O_undo_13 : decode b_O_undo 13 = .ok (.getfield 26, 3) := by decide +kernel
theorem d_O_undo_16 : decode b_O_undo 16 = .ok (.iconst 1, 1) := by decide +kernel
theorem d_O_undo_17 : decode b_O_undo 17 = .ok (.isub, 1) := by decide +kernel
theorem d_O_undo_18 : decode b_O_undo 18 = .ok (.putfield 26, 3) := by decide +kernel
theorem d_O_undo_21 : decode b_O_undo 21 = .ok (.aload_n 0, 1) := by decide +kernel
theorem d_O_undo_22 : decode b_O_undo 22 = .ok (.getfield 26, 3) := by decide +kernel
theorem d_O_undo_25 : decode b_O_undo 25 = .ok (.ireturn, 1) := by decide +kernel
theorem d_O_fault_0 : decode b_O_fault 0 = .ok (.iconst 0, 1) := by decide +kernel
theorem d_O_fault_1 : decode b_O_fault 1 = .ok (.istore_n 1, 1) := by decide +kernel
theorem d_O_fault_2 : decode b_O_fault 2 = .ok (.iconst 0, 1) := by decide +kernel
theorem d_O_fault_3 : decode b_O_fault 3 = .ok (.istore_n 2, 1) := by decide +kernel
theorem d_O_fault_4 : decode b_O_fault 4 = .ok (.iload_n 2, 1) := by decide +kernel
theorem d_O_fault_5 : decode b_O_fault 5 = .ok (.aload_n 0, 1) := by decide +kernel
theorem d_O_fault_6 : decode b_O_fault 6 = .ok (.getfield 26, 3) := by decide +kernel
theorem d_O_fault_9 : decode b_O_fault 9 = .ok (.if_icmp .ge 43, 3) := by decide +kernel
theorem d_O_fault_12 : decode b_O_fault 12 = .ok (.aload_n 0, 1) := by decide +kernel
theorem d_O_fault_13 : decode b_O_fault 13 = .ok (.getfield 23, 3) := by decide +kernel
theorem d_O_fault_16 : decode b_O_fault 16 = .ok (.iload_n 2, 1) := by decide +kernel
theorem d_O_fault_17 : decode b_O_fault 17 = .ok (.iaload, 1) := by decide +kernel
theorem d_O_fault_18 : decode b_O_fault 18 = .ok (.bipush 97, 2) := by decide +kernel
theorem d_O_fault_20 : decode b_O_fault 20 = .ok (.isub, 1) := by decide +kernel
theorem d_O_fault_21 : decode b_O_fault 21 = .ok (.istore_n 3, 1) := by decide +kernel
theorem d_O_fault_22 : decode b_O_fault 22 = .ok (.aload_n 0, 1) := by decide +kernel
theorem d_O_fault_23 : decode b_O_fault 23 = .ok (.iload_n 3, 1) := by decide +kernel
theorem d_O_fault_24 : decode b_O_fault 24 = .ok (.invokevirtual 150, 3) := by decide +kernel
theorem d_O_fault_27 : decode b_O_fault 27 = .ok (.ifCond .eq 11, 3) := by decide +kernel
theorem d_O_fault_30 : decode b_O_fault 30 = .ok (.iload_n 1, 1) := by decide +kernel
theorem d_O_fault_31 : decode b_O_fault 31 = .ok (.iload_n 3, 1) := by decide +kernel
theorem d_O_fault_32 : decode b_O_fault 32 = .ok (.ishr, 1) := by decide +kernel
theorem d_O_fault_33 : decode b_O_fault 33 = .ok (.iconst 1, 1) := by decide +kernel
theorem d_O_fault_34 : decode b_O_fault 34 = .ok (.iand, 1) := by decide +kernel
theorem d_O_fault_35 : decode b_O_fault 35 = .ok (.ifCond .eq 5, 3) := by decide +kernel
theorem d_O_fault_38 : decode b_O_fault 38 = .ok (.iload_n 2, 1) := by decide +kernel
theorem d_O_fault_39 : decode b_O_fault 39 = .ok (.ireturn, 1) := by decide +kernel
theorem d_O_fault_40 : decode b_O_fault 40 = .ok (.iload_n 1, 1) := by decide +kernel
theorem d_O_fault_41 : decode b_O_fault 41 = .ok (.iconst 1, 1) := by decide +kernel
theorem d_O_fault_42 : decode b_O_fault 42 = .ok (.iload_n 3, 1) := by decide +kernel
theorem d_O_fault_43 : decode b_O_fault 43 = .ok (.ishl, 1) := by decide +kernel
theorem d_O_fault_44 : decode b_O_fault 44 = .ok (.ior, 1) := by decide +kernel
theorem d_O_fault_45 : decode b_O_fault 45 = .ok (.istore_n 1, 1) := by decide +kernel
theorem d_O_fault_46 : decode b_O_fault 46 = .ok (.iinc 2 1, 3) := by decide +kernel
theorem d_O_fault_49 : decode b_O_fault 49 = .ok (.goto (-45), 3) := by decide +kernel
theorem d_O_fault_52 : decode b_O_fault 52 = .ok (.aload_n 0, 1) := by decide +kernel
theorem d_O_fault_53 : decode b_O_fault 53 = .ok (.getfield 26, 3) := by decide +kernel
theorem d_O_fault_56 : decode b_O_fault 56 = .ok (.ifCond .eq 14, 3) := by decide +kernel
theorem d_O_fault_59 : decode b_O_fault 59 = .ok (.aload_n 0, 1) := by decide +kernel
theorem d_O_fault_60 : decode b_O_fault 60 = .ok (.getfield 26, 3) := by decide +kernel
theorem d_O_fault_63 : decode b_O_fault 63 = .ok (.aload_n 0, 1) := by decide +kernel
theorem d_O_fault_64 : decode b_O_fault 64 = .ok (.getfield 9, 3) := by decide +kernel
theorem d_O_fault_67 : decode b_O_fault 67 = .ok (.if_icmp .ne 7, 3) := by decide +kernel
theorem d_O_fault_70 : decode b_O_fault 70 = .ok (.iconst (-1), 1) := by decide +kernel
theorem d_O_fault_71 : decode b_O_fault 71 = .ok (.goto 7, 3) := by decide +kernel
theorem d_O_fault_74 : decode b_O_fault 74 = .ok (.aload_n 0, 1) := by decide +kernel
theorem d_O_fault_75 : decode b_O_fault 75 = .ok (.getfield 26, 3) := by decide +kernel
theorem d_O_fault_78 : decode b_O_fault 78 = .ok (.ireturn, 1) := by decide +kernel
theorem d_O_findPlaces_0 : decode b_O_findPlaces 0 = .ok (.iconst 0, 1) := by decide +kernel
theorem d_O_findPlaces_1 : decode b_O_findPlaces 1 = .ok (.istore_n 1, 1) := by decide +kernel
theorem d_O_findPlaces_2 : decode b_O_findPlaces 2 = .ok (.iload_n 1, 1) := by decide +kernel
theorem d_O_findPlaces_3 : decode b_O_findPlaces 3 = .ok (.aload_n 0, 1) := by decide +kernel
theorem d_O_findPlaces_4 : decode b_O_findPlaces 4 = .ok (.getfield 26, 3) := by decide +kernel
theorem d_O_findPlaces_7 : decode b_O_findPlaces 7 = .ok (.if_icmp .ge 34, 3) := by decide +kernel
theorem d_O_findPlaces_10 : decode b_O_findPlaces 10 = .ok (.aload_n 0, 1) := by decide +kernel
theorem d_O_findPlaces_11 : decode b_O_findPlaces 11 = .ok (.getfield 23, 3) := by decide +kernel
theorem d_O_findPlaces_14 : decode b_O_findPlaces 14 = .ok (.iload_n 1, 1) := by decide +kernel
theorem d_O_findPlaces_15 : decode b_O_findPlaces 15 = .ok (.iaload, 1) := by decide +kernel
theorem d_O_findPlaces_16 : decode b_O_findPlaces 16 = .ok (.bipush 97, 2) := by decide +kernel
theorem d_O_findPlaces_18 : decode b_O_findPlaces 18 = .ok (.isub, 1) := by decide +kernel
theorem d_O_findPlaces_19 : decode b_O_findPlaces 19 = .ok (.istore_n 2, 1) := by decide +kernel
theorem d_O_findPlaces_20 : decode b_O_findPlaces 20 = .ok (.aload_n 0, 1) := by decide +kernel
theorem d_O_findPlaces_21 : decode b_O_findPlaces 21 = .ok (.iload_n 2, 1) := by decide +kernel
theorem d_O_findPlaces_22 : decode b_O_findPlaces 22 = .ok (.invokevirtual 150, 3) := by decide +kernel
theorem d_O_findPlaces_25 : decode b_O_findPlaces 25 = .ok (.ifCond .eq 10, 3) := by decide +kernel
theorem d_O_findPlaces_28 : decode b_O_findPlaces 28 = .ok (.aload_n 0, 1) := by decide +kernel
theorem d_O_findPlaces_29 : decode b_O_findPlaces 29 = .ok (.getfield 61, 3) := by decide +kernel
theorem d_O_findPlaces_32 : decode b_O_findPlaces 32 = .ok (.iload_n 2, 1) := by decide +kernel
theorem d_O_findPlaces_33 : decode b_O_findPlaces 33 = .ok (.iload_n 1, 1) := by decide +kernel
theorem d_O_findPlaces_34 : decode b_O_findPlaces 34 = .ok (.iastore, 1) := by decide +kernel
theorem d_O_findPlaces_35 : decode b_O_findPlaces 35 = .ok (.iinc 1 1, 3) := by decide +kernel
theorem d_O_findPlaces_38 : decode b_O_findPlaces 38 = .ok (.goto (-36), 3) := by decide +kernel
theorem d_O_findPlaces_41 : decode b_O_findPlaces 41 = .ok (.return_, 1) := by decide +kernel
theorem d_O_isSideBySide_0 : decode b_O_isSideBySide 0 = .ok (.bipush 8, 2) := by decide +kernel
theorem d_O_isSideBySide_2 : decode b_O_isSideBySide 2 = .ok (.istore_n 2, 1) := by decide +kernel
theorem d_O_isSideBySide_3 : decode b_O_isSideBySide 3 = .ok (.iconst (-1), 1) := by decide +kernel
theorem d_O_isSideBySide_4 : decode b_O_isSideBySide 4 = .ok (.istore_n 3, 1) := by decide +kernel
theorem d_O_isSideBySide_5 : decode b_O_isSideBySide 5 = .ok (.iconst 0, 1) := by decide +kernel
theorem d_O_isSideBySide_6 : decode b_O_isSideBySide 6 = .ok (.istore 4, 2) := by decide +kernel
theorem d_O_isSideBySide_8 : decode b_O_isSideBySide 8 = .ok (.iconst 0, 1) := by decide +kernel
theorem d_O_isSideBySide_9 : decode b_O_isSideBySide 9 = .ok (.istore 5, 2) := by decide +kernel
theorem d_O_isSideBySide_11 : decode b_O_isSideBySide 11 = .ok (.iload 5, 2) := by decide +kernel
theorem d_O_isSideBySide_13 : decode b_O_isSideBySide 13 = .ok (.aload_n 0, 1) := by decide +kernel
theorem d_O_isSideBySide_14 : decode b_O_isSideBySide 14 = .ok (.getfield 9, 3) := by decide +kernel
theorem d_O_isSideBySide_17 : decode b_O_isSideBySide 17 = .ok (.if_icmp .ge 45, 3) := by decide +kernel
theorem d_O_isSideBySide_20 : decode b_O_isSideBySide 20 = .ok (.iload_n 1, 1) := by decide +kernel
theorem d_O_isSideBySide_21 : decode b_O_isSideBySide 21 = .ok (.iload 5, 2) := by decide +kernel
theorem d_O_isSideBySide_23 : decode b_O_isSideBySide 23 = .ok (.ishr, 1) := by decide +kernel
theorem d_O_isSideBySide_24 : decode b_O_isSideBySide 24 = .ok (.iconst 1, 1) := by decide +kernel
theorem d_O_isSideBySide_25 : decode b_O_isSideBySide 25 = .ok (.iand, 1) := by decide +kernel
theorem d_O_isSideBySide_26 : decode b_O_isSideBySide 26 = .ok (.ifCond .eq 30, 3) := by decide +kernel
theorem d_O_isSideBySide_29 : decode b_O_isSideBySide 29 = .ok (.iload_n 2, 1) := by decide +kernel
theorem d_O_isSideBySide_30 : decode b_O_isSideBySide 30 = .ok (.aload_n 0, 1) := by decide +kernel
theorem d_O_isSideBySide_31 : decode b_O_isSideBySide 31 = .ok (.getfield 61, 3) := by decide +kernel
theorem d_O_isSideBySide_34 : decode b_O_isSideBySide 34 = .ok (.iload 5, 2) := by decide +kernel
theorem d_O_isSideBySide_36 : decode b_O_isSideBySide 36 = .ok (.iaload, 1) := by decide +kernel
theorem d_O_isSideBySide_37 : decode b_O_isSideBySide 37 = .ok (.invokestatic 201, 3) := by decide +kernel
theorem d_O_isSideBySide_40 : decode b_O_isSideBySide 40 = .ok (.istore_n 2, 1) := by decide +kernel
theorem d_O_isSideBySide_41 : decode b_O_isSideBySide 41 = .ok (.iload_n 3, 1) := by decide +kernel
theorem d_O_isSideBySide_42 : decode b_O_isSideBySide 42 = .ok (.aload_n 0, 1) := by decide +kernel
theorem d_O_isSideBySide_43 : decode b_O_isSideBySide 43 = .ok (.getfield 61, 3) := by decide +kernel
theorem d_O_isSideBySide_46 : decode b_O_isSideBySide 46 = .ok (.iload 5, 2) := by decide +kernel
theorem d_O_isSideBySide_48 : decode b_O_isSideBySide 48 = .ok (.iaload, 1) := by decide +kernel
theorem d_O_isSideBySide_49 : decode b_O_isSideBySide 49 = .ok (.invokestatic 252, 3) := by decide +kernel
theorem d_O_isSideBySide_52 : decode b_O_isSideBySide 52 = .ok (.istore_n 3, 1) := by decide +kernel
theorem d_O_isSideBySide_53 : decode b_O_isSideBySide 53 = .ok (.iinc 4 1, 3) := by decide +kernel
theorem d_O_isSideBySide_56 : decode b_O_isSideBySide 56 = .ok (.iinc 5 1, 3) := by decide +kernel
theorem d_O_isSideBySide_59 : decode b_O_isSideBySide 59 = .ok (.goto (-48), 3) := by decide +kernel
theorem d_O_isSideBySide_62 : decode b_O_isSideBySide 62 = .ok (.iload 4, 2) := by decide +kernel
theorem d_O_isSideBySide_64 : decode b_O_isSideBySide 64 = .ok (.iconst 2, 1) := by decide +kernel
theorem d_O_isSideBySide_65 : decode b_O_isSideBySide 65 = .ok (.if_icmp .lt 13, 3) := by decide +kernel
theorem d_O_isSideBySide_68 : decode b_O_isSideBySide 68 = .ok (.iload_n 3, 1) := by decide +kernel
theorem d_O_isSideBySide_69 : decode b_O_isSideBySide 69 = .ok (.iload_n 2, 1) := by decide +kernel
theorem d_O_isSideBySide_70 : decode b_O_isSideBySide 70 = .ok (.isub, 1) := by decide +kernel
theorem d_O_isSideBySide_71 : decode b_O_isSideBySide 71 = .ok (.iconst 1, 1) := by decide +kernel
theorem d_O_isSideBySide_72 : decode b_O_isSideBySide 72 = .ok (.iadd, 1) := by decide +kernel
theorem d_O_isSideBySide_73 : decode b_O_isSideBySide 73 = .ok (.iload 4, 2) := by decide +kernel
theorem d_O_isSideBySide_75 : decode b_O_isSideBySide 75 = .ok (.if_icmp .ne 7, 3) := by decide +kernel
theorem d_O_isSideBySide_78 : decode b_O_isSideBySide 78 = .ok (.iconst 1, 1) := by decide +kernel
theorem d_O_isSideBySide_79 : decode b_O_isSideBySide 79 = .ok (.goto 4, 3) := by decide +kernel
theorem d_O_isSideBySide_82 : decode b_O_isSideBySide 82 = .ok (.iconst 0, 1) := by decide +kernel
theorem d_O_isSideBySide_83 : decode b_O_isSideBySide 83 = .ok (.ireturn, 1) := by decide +kernel
theorem d_O_misses_0 : decode b_O_misses 0 = .ok (.aload_n 0, 1) := by decide +kernel
theorem d_O_misses_1 : decode b_O_misses 1 = .ok (.getfield 26, 3) := by decide +kernel
theorem d_O_misses_4 : decode b_O_misses 4 = .ok (.ifCond .eq 11, 3) := by decide +kernel
theorem d_O_misses_7 : decode b_O_misses 7 = .ok (.aload_n 0, 1) := by decide +kernel
theorem d_O_misses_8 : decode b_O_misses 8 = .ok (.invokevirtual 157, 3) := by decide +kernel
theorem d_O_misses_11 : decode b_O_misses 11 = .ok (.iconst (-1), 1) := by decide +kernel
theorem d_O_misses_12 : decode b_O_misses 12 = .ok (.if_icmp .eq 6, 3) := by decide +kernel
theorem d_O_misses_15 : decode b_O_misses 15 = .ok (.bipush (-3), 2) := by decide +kernel
theorem d_O_misses_17 : decode b_O_misses 17 = .ok (.ireturn, 1) := by decide +kernel
theorem d_O_misses_18 : decode b_O_misses 18 = .ok (.aload_n 0, 1) := by decide +kernel
theorem d_O_misses_19 : decode b_O_misses 19 = .ok (.invokevirtual 160, 3) := by decide +kernel
theorem d_O_misses_22 : decode b_O_misses 22 = .ok (.iconst 0, 1) := by decide +kernel
theorem d_O_misses_23 : decode b_O_misses 23 = .ok (.istore_n 1, 1) := by decide +kernel
theorem d_O_misses_24 : decode b_O_misses 24 = .ok (.iconst 0, 1) := by decide +kernel
theorem d_O_misses_25 : decode b_O_misses 25 = .ok (.istore_n 2, 1) := by decide +kernel
theorem d_O_misses_26 : decode b_O_misses 26 = .ok (.iload_n 2, 1) := by decide +kernel
theorem d_O_misses_27 : decode b_O_misses 27 = .ok (.aload_n 0, 1) := by decide +kernel
theorem d_O_misses_28 : decode b_O_misses 28 = .ok (.getfield 17, 3) := by decide +kernel
theorem d_O_misses_31 : decode b_O_misses 31 = .ok (.if_icmp .ge 28, 3) := by decide +kernel
theorem d_O_misses_34 : decode b_O_misses 34 = .ok (.aload_n 0, 1) := by decide +kernel
theorem d_O_misses_35 : decode b_O_misses 35 = .ok (.aload_n 0, 1) := by decide +kernel
theorem d_O_misses_36 : decode b_O_misses 36 = .ok (.getfield 13, 3) := by decide +kernel
theorem d_O_misses_39 : decode b_O_misses 39 = .ok (.iload_n 2, 1) := by decide +kernel
theorem d_O_misses_40 : decode b_O_misses 40 = .ok (.iaload, 1) := by decide +kernel
theorem d_O_misses_41 : decode b_O_misses 41 = .ok (.invokevirtual 163, 3) := by decide +kernel
theorem d_O_misses_44 : decode b_O_misses 44 = .ok (.ifCond .ne 9, 3) := by decide +kernel
theorem d_O_misses_47 : decode b_O_misses 47 = .ok (.iload_n 1, 1) := by decide +kernel
theorem d_O_misses_48 : decode b_O_misses 48 = .ok (.iconst 1, 1) := by decide +kernel
theorem d_O_misses_49 : decode b_O_misses 49 = .ok (.iload_n 2, 1) := by decide +kernel
theorem d_O_misses_50 : decode b_O_misses 50 = .ok (.ishl, 1) := by decide +kernel
theorem d_O_misses_51 : decode b_O_misses 51 = .ok (.ior, 1) := by decide +kernel
theorem d_O_misses_52 : decode b_O_misses 52 = .ok (.istore_n 1, 1) := by decide +kernel
theorem d_O_misses_53 : decode b_O_misses 53 = .ok (.iinc 2 1, 3) := by decide +kernel
theorem d_O_misses_56 : decode b_O_misses 56 = .ok (.goto (-30), 3) := by decide +kernel
theorem d_O_misses_59 : decode b_O_misses 59 = .ok (.iload_n 1, 1) := by decide +kernel
theorem d_O_misses_60 : decode b_O_misses 60 = .ok (.ireturn, 1) := by decide +kernel
theorem d_O_number_0 : decode b_O_number 0 = .ok (.aload_n 0, 1) := by decide +kernel
theorem d_O_number_1 : decode b_O_number 1 = .ok (.invokevirtual 166, 3) := by decide +kernel
theorem d_O_number_4 : decode b_O_number 4 = .ok (.istore_n 1, 1) := by decide +kernel
theorem d_O_number_5 : decode b_O_number 5 = .ok (.iload_n 1, 1) := by decide +kernel
theorem d_O_number_6 : decode b_O_number 6 = .ok (.bipush (-3), 2) := by decide +kernel
theorem d_O_number_8 : decode b_O_number 8 = .ok (.if_icmp .ne 6, 3) := by decide +kernel
theorem d_O_number_11 : decode b_O_number 11 = .ok (.bipush (-3), 2) := by decide +kernel
theorem d_O_number_13 : decode b_O_number 13 = .ok (.ireturn, 1) := by decide +kernel
theorem d_O_number_14 : decode b_O_number 14 = .ok (.iload_n 1, 1) := by decide +kernel
theorem d_O_number_15 : decode b_O_number 15 = .ok (.aload_n 0, 1) := by decide +kernel
theorem d_O_number_16 : decode b_O_number 16 = .ok (.getfield 20, 3) := by decide +kernel
theorem d_O_number_19 : decode b_O_number 19 = .ok (.iand, 1) := by decide +kernel
theorem d_O_number_20 : decode b_O_number 20 = .ok (.ifCond .eq 5, 3) := by decide +kernel
theorem d_O_number_23 : decode b_O_number 23 = .ok (.iconst (-1), 1) := by decide +kernel
theorem d_O_number_24 : decode b_O_number 24 = .ok (.ireturn, 1) := by decide +kernel
theorem d_O_number_25 : decode b_O_number 25 = .ok (.aload_n 0, 1) := by decide +kernel
theorem d_O_number_26 : decode b_O_number 26 = .ok (.getfield 42, 3) := by decide +kernel
theorem d_O_number_29 : decode b_O_number 29 = .ok (.aload_n 0, 1) := by decide +kernel
theorem d_O_number_30 : decode b_O_number 30 = .ok (.getfield 61, 3) := by decide +kernel
theorem d_O_number_33 : decode b_O_number 33 = .ok (.invokevirtual 169, 3) := by decide +kernel
theorem d_O_number_36 : decode b_O_number 36 = .ok (.ireturn, 1) := by decide +kernel
theorem d_O_isForm_0 : decode b_O_isForm 0 = .ok (.iload_n 0, 1) := by decide +kernel
theorem d_O_isForm_1 : decode b_O_isForm 1 = .ok (.ifCond .lt 12, 3) := by decide +kernel
theorem d_O_isForm_4 : decode b_O_isForm 4 = .ok (.iload_n 0, 1) := by decide +kernel
theorem d_O_isForm_5 : decode b_O_isForm 5 = .ok (.iconst 2, 1) := by decide +kernel
theorem d_O_isForm_6 : decode b_O_isForm 6 = .ok (.if_icmp .gt 7, 3) := by decide +kernel
theorem d_O_isForm_9 : decode b_O_isForm 9 = .ok (.iconst 1, 1) := by decide +kernel
theorem d_O_isForm_10 : decode b_O_isForm 10 = .ok (.goto 4, 3) := by decide +kernel
theorem d_O_isForm_13 : decode b_O_isForm 13 = .ok (.iconst 0, 1) := by decide +kernel
theorem d_O_isForm_14 : decode b_O_isForm 14 = .ok (.ireturn, 1) := by decide +kernel
theorem d_O_sheet_0 : decode b_O_sheet 0 = .ok (.iload_n 1, 1) := by decide +kernel
theorem d_O_sheet_1 : decode b_O_sheet 1 = .ok (.invokestatic 104, 3) := by decide +kernel
theorem d_O_sheet_4 : decode b_O_sheet 4 = .ok (.ifCond .eq 16, 3) := by decide +kernel
theorem d_O_sheet_7 : decode b_O_sheet 7 = .ok (.iload_n 2, 1) := by decide +kernel
theorem d_O_sheet_8 : decode b_O_sheet 8 = .ok (.invokestatic 172, 3) := by decide +kernel
theorem d_O_sheet_11 : decode b_O_sheet 11 = .ok (.ifCond .eq 9, 3) := by decide +kernel
theorem d_O_sheet_14 : decode b_O_sheet 14 = .ok (.iload_n 3, 1) := by decide +kernel
theorem d_O_sheet_15 : decode b_O_sheet 15 = .ok (.bipush 60, 2) := by decide +kernel
theorem d_O_sheet_17 : decode b_O_sheet 17 = .ok (.if_icmp .le 6, 3) := by decide +kernel
theorem d_O_sheet_20 : decode b_O_sheet 20 = .ok (.bipush (-2), 2) := by decide +kernel
theorem d_O_sheet_22 : decode b_O_sheet 22 = .ok (.ireturn, 1) := by decide +kernel
theorem d_O_sheet_23 : decode b_O_sheet 23 = .ok (.iload_n 3, 1) := by decide +kernel
theorem d_O_sheet_24 : decode b_O_sheet 24 = .ok (.ifCond .ge 9, 3) := by decide +kernel
theorem d_O_sheet_27 : decode b_O_sheet 27 = .ok (.aload_n 0, 1) := by decide +kernel
theorem d_O_sheet_28 : decode b_O_sheet 28 = .ok (.iconst 5, 1) := by decide +kernel
theorem d_O_sheet_29 : decode b_O_sheet 29 = .ok (.invokevirtual 110, 3) := by decide +kernel
theorem d_O_sheet_32 : decode b_O_sheet 32 = .ok (.ireturn, 1) := by decide +kernel
theorem d_O_sheet_33 : decode b_O_sheet 33 = .ok (.aload_n 0, 1) := by decide +kernel
theorem d_O_sheet_34 : decode b_O_sheet 34 = .ok (.getfield 35, 3) := by decide +kernel
theorem d_O_sheet_37 : decode b_O_sheet 37 = .ok (.iload_n 1, 1) := by decide +kernel
theorem d_O_sheet_38 : decode b_O_sheet 38 = .ok (.iload_n 2, 1) := by decide +kernel
theorem d_O_sheet_39 : decode b_O_sheet 39 = .ok (.iload_n 3, 1) := by decide +kernel
theorem d_O_sheet_40 : decode b_O_sheet 40 = .ok (.invokevirtual 175, 3) := by decide +kernel
theorem d_O_sheet_43 : decode b_O_sheet 43 = .ok (.iload_n 3, 1) := by decide +kernel
theorem d_O_sheet_44 : decode b_O_sheet 44 = .ok (.ireturn, 1) := by decide +kernel
theorem d_O_lose_0 : decode b_O_lose 0 = .ok (.iload_n 1, 1) := by decide +kernel
theorem d_O_lose_1 : decode b_O_lose 1 = .ok (.invokestatic 104, 3) := by decide +kernel
theorem d_O_lose_4 : decode b_O_lose 4 = .ok (.ifCond .ne 6, 3) := by decide +kernel
theorem d_O_lose_7 : decode b_O_lose 7 = .ok (.bipush (-2), 2) := by decide +kernel
theorem d_O_lose_9 : decode b_O_lose 9 = .ok (.ireturn, 1) := by decide +kernel
theorem d_O_lose_10 : decode b_O_lose 10 = .ok (.aload_n 0, 1) := by decide +kernel
theorem d_O_lose_11 : decode b_O_lose 11 = .ok (.getfield 35, 3) := by decide +kernel
theorem d_O_lose_14 : decode b_O_lose 14 = .ok (.iload_n 1, 1) := by decide +kernel
theorem d_O_lose_15 : decode b_O_lose 15 = .ok (.invokevirtual 107, 3) := by decide +kernel
theorem d_O_lose_18 : decode b_O_lose 18 = .ok (.ifCond .eq 9, 3) := by decide +kernel
theorem d_O_lose_21 : decode b_O_lose 21 = .ok (.aload_n 0, 1) := by decide +kernel
theorem d_O_lose_22 : decode b_O_lose 22 = .ok (.iconst 1, 1) := by decide +kernel
theorem d_O_lose_23 : decode b_O_lose 23 = .ok (.invokevirtual 110, 3) := by decide +kernel
theorem d_O_lose_26 : decode b_O_lose 26 = .ok (.ireturn, 1) := by decide +kernel
theorem d_O_lose_27 : decode b_O_lose 27 = .ok (.aload_n 0, 1) := by decide +kernel
theorem d_O_lose_28 : decode b_O_lose 28 = .ok (.getfield 35, 3) := by decide +kernel
theorem d_O_lose_31 : decode b_O_lose 31 = .ok (.iload_n 1, 1) := by decide +kernel
theorem d_O_lose_32 : decode b_O_lose 32 = .ok (.invokevirtual 113, 3) := by decide +kernel
theorem d_O_lose_35 : decode b_O_lose 35 = .ok (.istore_n 2, 1) := by decide +kernel
theorem d_O_lose_36 : decode b_O_lose 36 = .ok (.aload_n 0, 1) := by decide +kernel
theorem d_O_lose_37 : decode b_O_lose 37 = .ok (.getfield 35, 3) := by decide +kernel
theorem d_O_lose_40 : decode b_O_lose 40 = .ok (.iload_n 1, 1) := by decide +kernel
theorem d_O_lose_41 : decode b_O_lose 41 = .ok (.invokevirtual 179, 3) := by decide +kernel
theorem d_O_lose_44 : decode b_O_lose 44 = .ok (.iload_n 2, 1) := by decide +kernel
theorem d_O_lose_45 : decode b_O_lose 45 = .ok (.ireturn, 1) := by decide +kernel
theorem d_O_findingOf_0 : decode b_O_findingOf 0 = .ok (.aload_n 0, 1) := by decide +kernel
theorem d_O_findingOf_1 : decode b_O_findingOf 1 = .ok (.getfield 35, 3) := by decide +kernel
theorem d_O_findingOf_4 : decode b_O_findingOf 4 = .ok (.iload_n 1, 1) := by decide +kernel
theorem d_O_findingOf_5 : decode b_O_findingOf 5 = .ok (.invokevirtual 107, 3) := by decide +kernel
theorem d_O_findingOf_8 : decode b_O_findingOf 8 = .ok (.ifCond .eq 5, 3) := by decide +kernel
theorem d_O_findingOf_11 : decode b_O_findingOf 11 = .ok (.iconst 1, 1) := by decide +kernel
theorem d_O_findingOf_12 : decode b_O_findingOf 12 = .ok (.ireturn, 1) := by decide +kernel
theorem d_O_findingOf_13 : decode b_O_findingOf 13 = .ok (.aload_n 0, 1) := by decide +kernel
theorem d_O_findingOf_14 : decode b_O_findingOf 14 = .ok (.getfield 35, 3) := by decide +kernel
theorem d_O_findingOf_17 : decode b_O_findingOf 17 = .ok (.iload_n 1, 1) := by decide +kernel
theorem d_O_findingOf_18 : decode b_O_findingOf 18 = .ok (.invokevirtual 190, 3) := by decide +kernel
theorem d_O_findingOf_21 : decode b_O_findingOf 21 = .ok (.iload_n 2, 1) := by decide +kernel
theorem d_O_findingOf_22 : decode b_O_findingOf 22 = .ok (.if_icmp .eq 5, 3) := by decide +kernel
theorem d_O_findingOf_25 : decode b_O_findingOf 25 = .ok (.iconst 3, 1) := by decide +kernel
theorem d_O_findingOf_26 : decode b_O_findingOf 26 = .ok (.ireturn, 1) := by decide +kernel
theorem d_O_findingOf_27 : decode b_O_findingOf 27 = .ok (.iload_n 3, 1) := by decide +kernel
theorem d_O_findingOf_28 : decode b_O_findingOf 28 = .ok (.ifCond .lt 15, 3) := by decide +kernel
theorem d_O_findingOf_31 : decode b_O_findingOf 31 = .ok (.iload_n 3, 1) := by decide +kernel
theorem d_O_findingOf_32 : decode b_O_findingOf 32 = .ok (.aload_n 0, 1) := by decide +kernel
theorem d_O_findingOf_33 : decode b_O_findingOf 33 = .ok (.getfield 35, 3) := by decide +kernel
theorem d_O_findingOf_36 : decode b_O_findingOf 36 = .ok (.iload_n 1, 1) := by decide +kernel
theorem d_O_findingOf_37 : decode b_O_findingOf 37 = .ok (.invokevirtual 113, 3) := by decide +kernel
theorem d_O_findingOf_40 : decode b_O_findingOf 40 = .ok (.if_icmp .lt 7, 3) := by decide +kernel
theorem d_O_findingOf_43 : decode b_O_findingOf 43 = .ok (.iconst 2, 1) := by decide +kernel
theorem d_O_findingOf_44 : decode b_O_findingOf 44 = .ok (.goto 4, 3) := by decide +kernel
theorem d_O_findingOf_47 : decode b_O_findingOf 47 = .ok (.iconst 0, 1) := by decide +kernel
theorem d_O_findingOf_48 : decode b_O_findingOf 48 = .ok (.ireturn, 1) := by decide +kernel
theorem d_O_put_0 : decode b_O_put 0 = .ok (.iload_n 1, 1) := by decide +kernel
theorem d_O_put_1 : decode b_O_put 1 = .ok (.invokestatic 104, 3) := by decide +kernel
theorem d_O_put_4 : decode b_O_put 4 = .ok (.ifCond .eq 10, 3) := by decide +kernel
theorem d_O_put_7 : decode b_O_put 7 = .ok (.iload_n 2, 1) := by decide +kernel
theorem d_O_put_8 : decode b_O_put 8 = .ok (.invokestatic 172, 3) := by decide +kernel
theorem d_O_put_11 : decode b_O_put 11 = .ok (.ifCond .ne 6, 3) := by decide +kernel
theorem d_O_put_14 : decode b_O_put 14 = .ok (.bipush (-2), 2) := by decide +kernel
theorem d_O_put_16 : decode b_O_put 16 = .ok (.ireturn, 1) := by decide +kernel
theorem d_O_put_17 : decode b_O_put 17 = .ok (.aload_n 0, 1) := by decide +kernel
theorem d_O_put_18 : decode b_O_put 18 = .ok (.iload_n 1, 1) := by decide +kernel
theorem d_O_put_19 : decode b_O_put 19 = .ok (.iload_n 2, 1) := by decide +kernel
theorem d_O_put_20 : decode b_O_put 20 = .ok (.iload_n 3, 1) := by decide +kernel
theorem d_O_put_21 : decode b_O_put 21 = .ok (.invokevirtual 182, 3) := by decide +kernel
theorem d_O_put_24 : decode b_O_put 24 = .ok (.istore 5, 2) := by decide +kernel
theorem d_O_put_26 : decode b_O_put 26 = .ok (.iload 5, 2) := by decide +kernel
theorem d_O_put_28 : decode b_O_put 28 = .ok (.ifCond .eq 10, 3) := by decide +kernel
theorem d_O_put_31 : decode b_O_put 31 = .ok (.aload_n 0, 1) := by decide +kernel
theorem d_O_put_32 : decode b_O_put 32 = .ok (.iload 5, 2) := by decide +kernel
theorem d_O_put_34 : decode b_O_put 34 = .ok (.invokevirtual 110, 3) := by decide +kernel
theorem d_O_put_37 : decode b_O_put 37 = .ok (.ireturn, 1) := by decide +kernel
theorem d_O_put_38 : decode b_O_put 38 = .ok (.aload_n 0, 1) := by decide +kernel
theorem d_O_put_39 : decode b_O_put 39 = .ok (.getfield 35, 3) := by decide +kernel
theorem d_O_put_42 : decode b_O_put 42 = .ok (.iload_n 1, 1) := by decide +kernel
theorem d_O_put_43 : decode b_O_put 43 = .ok (.iload_n 3, 1) := by decide +kernel
theorem d_O_put_44 : decode b_O_put 44 = .ok (.iload 4, 2) := by decide +kernel
theorem d_O_put_46 : decode b_O_put 46 = .ok (.invokevirtual 186, 3) := by decide +kernel
theorem d_O_put_49 : decode b_O_put 49 = .ok (.iconst 1, 1) := by decide +kernel
theorem d_O_put_50 : decode b_O_put 50 = .ok (.ireturn, 1) := by decide +kernel
theorem d_O_get_0 : decode b_O_get 0 = .ok (.iload_n 1, 1) := by decide +kernel
theorem d_O_get_1 : decode b_O_get 1 = .ok (.invokestatic 104, 3) := by decide +kernel
theorem d_O_get_4 : decode b_O_get 4 = .ok (.ifCond .eq 10, 3) := by decide +kernel
theorem d_O_get_7 : decode b_O_get 7 = .ok (.iload_n 2, 1) := by decide +kernel
theorem d_O_get_8 : decode b_O_get 8 = .ok (.invokestatic 172, 3) := by decide +kernel
theorem d_O_get_11 : decode b_O_get 11 = .ok (.ifCond .ne 6, 3) := by decide +kernel
theorem d_O_get_14 : decode b_O_get 14 = .ok (.ldc 189, 2) := by decide +kernel
theorem d_O_get_16 : decode b_O_get 16 = .ok (.ireturn, 1) := by decide +kernel
theorem d_O_get_17 : decode b_O_get 17 = .ok (.aload_n 0, 1) := by decide +kernel
theorem d_O_get_18 : decode b_O_get 18 = .ok (.iload_n 1, 1) := by decide +kernel
theorem d_O_get_19 : decode b_O_get 19 = .ok (.iload_n 2, 1) := by decide +kernel
theorem d_O_get_20 : decode b_O_get 20 = .ok (.iload_n 3, 1) := by decide +kernel
theorem d_O_get_21 : decode b_O_get 21 = .ok (.invokevirtual 182, 3) := by decide +kernel
theorem d_O_get_24 : decode b_O_get 24 = .ok (.istore 4, 2) := by decide +kernel
theorem d_O_get_26 : decode b_O_get 26 = .ok (.iload 4, 2) := by decide +kernel
theorem d_O_get_28 : decode b_O_get 28 = .ok (.ifCond .eq 13, 3) := by decide +kernel
theorem d_O_get_31 : decode b_O_get 31 = .ok (.aload_n 0, 1) := by decide +kernel
theorem d_O_get_32 : decode b_O_get 32 = .ok (.iload 4, 2) := by decide +kernel
theorem d_O_get_34 : decode b_O_get 34 = .ok (.invokevirtual 110, 3) := by decide +kernel
theorem d_O_get_37 : decode b_O_get 37 = .ok (.pop, 1) := by decide +kernel
theorem d_O_get_38 : decode b_O_get 38 = .ok (.ldc 189, 2) := by decide +kernel
theorem d_O_get_40 : decode b_O_get 40 = .ok (.ireturn, 1) := by decide +kernel
theorem d_O_get_41 : decode b_O_get 41 = .ok (.aload_n 0, 1) := by decide +kernel
theorem d_O_get_42 : decode b_O_get 42 = .ok (.getfield 35, 3) := by decide +kernel
theorem d_O_get_45 : decode b_O_get 45 = .ok (.iload_n 1, 1) := by decide +kernel
theorem d_O_get_46 : decode b_O_get 46 = .ok (.iload_n 3, 1) := by decide +kernel
theorem d_O_get_47 : decode b_O_get 47 = .ok (.invokevirtual 116, 3) := by decide +kernel
theorem d_O_get_50 : decode b_O_get 50 = .ok (.ireturn, 1) := by decide +kernel
theorem d_O_copy_0 : decode b_O_copy 0 = .ok (.iload_n 1, 1) := by decide +kernel
theorem d_O_copy_1 : decode b_O_copy 1 = .ok (.invokestatic 104, 3) := by decide +kernel
theorem d_O_copy_4 : decode b_O_copy 4 = .ok (.ifCond .eq 10, 3) := by decide +kernel
theorem d_O_copy_7 : decode b_O_copy 7 = .ok (.iload_n 3, 1) := by decide +kernel
theorem d_O_copy_8 : decode b_O_copy 8 = .ok (.invokestatic 104, 3) := by decide +kernel
theorem d_O_copy_11 : decode b_O_copy 11 = .ok (.ifCond .ne 6, 3) := by decide +kernel
theorem d_O_copy_14 : decode b_O_copy 14 = .ok (.bipush (-2), 2) := by decide +kernel
theorem d_O_copy_16 : decode b_O_copy 16 = .ok (.ireturn, 1) := by decide +kernel
theorem d_O_copy_17 : decode b_O_copy 17 = .ok (.aload_n 0, 1) := by decide +kernel
theorem d_O_copy_18 : decode b_O_copy 18 = .ok (.getfield 35, 3) := by decide +kernel
theorem d_O_copy_21 : decode b_O_copy 21 = .ok (.iload_n 1, 1) := by decide +kernel
theorem d_O_copy_22 : decode b_O_copy 22 = .ok (.invokevirtual 107, 3) := by decide +kernel
theorem d_O_copy_25 : decode b_O_copy 25 = .ok (.ifCond .ne 14, 3) := by decide +kernel
theorem d_O_copy_28 : decode b_O_copy 28 = .ok (.aload_n 0, 1) := by decide +kernel
theorem d_O_copy_29 : decode b_O_copy 29 = .ok (.getfield 35, 3) := by decide +kernel
theorem d_O_copy_32 : decode b_O_copy 32 = .ok (.iload_n 3, 1) := by decide +kernel
theorem d_O_copy_33 : decode b_O_copy 33 = .ok (.invokevirtual 107, 3) := by decide +kernel
theorem d_O_copy_36 : decode b_O_copy 36 = .ok (.ifCond .eq 9, 3) := by decide +kernel
theorem d_O_copy_39 : decode b_O_copy 39 = .ok (.aload_n 0, 1) := by decide +kernel
theorem d_O_copy_40 : decode b_O_copy 40 = .ok (.iconst 1, 1) := by decide +kernel
theorem d_O_copy_41 : decode b_O_copy 41 = .ok (.invokevirtual 110, 3) := by decide +kernel
theorem d_O_copy_44 : decode b_O_copy 44 = .ok (.ireturn, 1) := by decide +kernel
theorem d_O_copy_45 : decode b_O_copy 45 = .ok (.aload_n 0, 1) := by decide +kernel
theorem d_O_copy_46 : decode b_O_copy 46 = .ok (.getfield 35, 3) := by decide +kernel
theorem d_O_copy_49 : decode b_O_copy 49 = .ok (.iload_n 1, 1) := by decide +kernel
theorem d_O_copy_50 : decode b_O_copy 50 = .ok (.invokevirtual 190, 3) := by decide +kernel
theorem d_O_copy_53 : decode b_O_copy 53 = .ok (.aload_n 0, 1) := by decide +kernel
theorem d_O_copy_54 : decode b_O_copy 54 = .ok (.getfield 35, 3) := by decide +kernel
theorem d_O_copy_57 : decode b_O_copy 57 = .ok (.iload_n 3, 1) := by decide +kernel
theorem d_O_copy_58 : decode b_O_copy 58 = .ok (.invokevirtual 190, 3) := by decide +kernel
theorem d_O_copy_61 : decode b_O_copy 61 = .ok (.if_icmp .eq 9, 3) := by decide +kernel
theorem d_O_copy_64 : decode b_O_copy 64 = .ok (.aload_n 0, 1) := by decide +kernel
theorem d_O_copy_65 : decode b_O_copy 65 = .ok (.iconst 4, 1) := by decide +kernel
theorem d_O_copy_66 : decode b_O_copy 66 = .ok (.invokevirtual 110, 3) := by decide +kernel
theorem d_O_copy_69 : decode b_O_copy 69 = .ok (.ireturn, 1) := by decide +kernel
theorem d_O_copy_70 : decode b_O_copy 70 = .ok (.aload_n 0, 1) := by decide +kernel
theorem d_O_copy_71 : decode b_O_copy 71 = .ok (.getfield 35, 3) := by decide +kernel
theorem d_O_copy_74 : decode b_O_copy 74 = .ok (.iload_n 1, 1) := by decide +kernel
theorem d_O_copy_75 : decode b_O_copy 75 = .ok (.iload_n 2, 1) := by decide +kernel
theorem d_O_copy_76 : decode b_O_copy 76 = .ok (.iload 5, 2) := by decide +kernel
theorem d_O_copy_78 : decode b_O_copy 78 = .ok (.invokevirtual 193, 3) := by decide +kernel
theorem d_O_copy_81 : decode b_O_copy 81 = .ok (.ifCond .eq 18, 3) := by decide +kernel
theorem d_O_copy_84 : decode b_O_copy 84 = .ok (.aload_n 0, 1) := by decide +kernel
theorem d_O_copy_85 : decode b_O_copy 85 = .ok (.getfield 35, 3) := by decide +kernel
theorem d_O_copy_88 : decode b_O_copy 88 = .ok (.iload_n 3, 1) := by decide +kernel
theorem d_O_copy_89 : decode b_O_copy 89 = .ok (.iload 4, 2) := by decide +kernel
theorem d_O_copy_91 : decode b_O_copy 91 = .ok (.iload 5, 2) := by decide +kernel
theorem d_O_copy_93 : decode b_O_copy 93 = .ok (.invokevirtual 193, 3) := by decide +kernel
theorem d_O_copy_96 : decode b_O_copy 96 = .ok (.ifCond .ne 9, 3) := by decide +kernel
theorem d_O_copy_99 : decode b_O_copy 99 = .ok (.aload_n 0, 1) := by decide +kernel
theorem d_O_copy_100 : decode b_O_copy 100 = .ok (.iconst 2, 1) := by decide +kernel
theorem d_O_copy_101 : decode b_O_copy 101 = .ok (.invokevirtual 110, 3) := by decide +kernel
theorem d_O_copy_104 : decode b_O_copy 104 = .ok (.ireturn, 1) := by decide +kernel
theorem d_O_copy_105 : decode b_O_copy 105 = .ok (.aload_n 0, 1) := by decide +kernel
theorem d_O_copy_106 : decode b_O_copy 106 = .ok (.getfield 35, 3) := by decide +kernel
theorem d_O_copy_109 : decode b_O_copy 109 = .ok (.iload_n 1, 1) := by decide +kernel
theorem d_O_copy_110 : decode b_O_copy 110 = .ok (.iload_n 2, 1) := by decide +kernel
theorem d_O_copy_111 : decode b_O_copy 111 = .ok (.iload_n 3, 1) := by decide +kernel
theorem d_O_copy_112 : decode b_O_copy 112 = .ok (.iload 4, 2) := by decide +kernel
theorem d_O_copy_114 : decode b_O_copy 114 = .ok (.iload 5, 2) := by decide +kernel
theorem d_O_copy_116 : decode b_O_copy 116 = .ok (.invokevirtual 197, 3) := by decide +kernel
theorem d_O_copy_119 : decode b_O_copy 119 = .ok (.iconst 1, 1) := by decide +kernel
theorem d_O_copy_120 : decode b_O_copy 120 = .ok (.ireturn, 1) := by decide +kernel
theorem d_O_write_0 : decode b_O_write 0 = .ok (.iload_n 1, 1) := by decide +kernel
theorem d_O_write_1 : decode b_O_write 1 = .ok (.invokestatic 140, 3) := by decide +kernel
theorem d_O_write_4 : decode b_O_write 4 = .ok (.ifCond .eq 10, 3) := by decide +kernel
theorem d_O_write_7 : decode b_O_write 7 = .ok (.iload_n 2, 1) := by decide +kernel
theorem d_O_write_8 : decode b_O_write 8 = .ok (.invokestatic 104, 3) := by decide +kernel
theorem d_O_write_11 : decode b_O_write 11 = .ok (.ifCond .ne 6, 3) := by decide +kernel
theorem d_O_write_14 : decode b_O_write 14 = .ok (.bipush (-2), 2) := by decide +kernel
theorem d_O_write_16 : decode b_O_write 16 = .ok (.ireturn, 1) := by decide +kernel
theorem d_O_write_17 : decode b_O_write 17 = .ok (.aload_n 0, 1) := by decide +kernel
theorem d_O_write_18 : decode b_O_write 18 = .ok (.getfield 35, 3) := by decide +kernel
theorem d_O_write_21 : decode b_O_write 21 = .ok (.iload_n 2, 1) := by decide +kernel
theorem d_O_write_22 : decode b_O_write 22 = .ok (.invokevirtual 107, 3) := by decide +kernel
theorem d_O_write_25 : decode b_O_write 25 = .ok (.ifCond .eq 9, 3) := by decide +kernel
theorem d_O_write_28 : decode b_O_write 28 = .ok (.aload_n 0, 1) := by decide +kernel
theorem d_O_write_29 : decode b_O_write 29 = .ok (.iconst 1, 1) := by decide +kernel
theorem d_O_write_30 : decode b_O_write 30 = .ok (.invokevirtual 110, 3) := by decide +kernel
theorem d_O_write_33 : decode b_O_write 33 = .ok (.ireturn, 1) := by decide +kernel
theorem d_O_write_34 : decode b_O_write 34 = .ok (.iload_n 1, 1) := by decide +kernel
theorem d_O_write_35 : decode b_O_write 35 = .ok (.i2l, 1) := by decide +kernel
theorem d_O_write_36 : decode b_O_write 36 = .ok (.aload_n 0, 1) := by decide +kernel
theorem d_O_write_37 : decode b_O_write 37 = .ok (.getfield 42, 3) := by decide +kernel
theorem d_O_write_40 : decode b_O_write 40 = .ok (.invokevirtual 123, 3) := by decide +kernel
theorem d_O_write_43 : decode b_O_write 43 = .ok (.lcmp, 1) := by decide +kernel
theorem d_O_write_44 : decode b_O_write 44 = .ok (.ifCond .lt 5, 3) := by decide +kernel
theorem d_O_write_47 : decode b_O_write 47 = .ok (.iconst 0, 1) := by decide +kernel
theorem d_O_write_48 : decode b_O_write 48 = .ok (.ireturn, 1) := by decide +kernel
theorem d_O_write_49 : decode b_O_write 49 = .ok (.aload_n 0, 1) := by decide +kernel
theorem d_O_write_50 : decode b_O_write 50 = .ok (.getfield 42, 3) := by decide +kernel
theorem d_O_write_53 : decode b_O_write 53 = .ok (.iload_n 1, 1) := by decide +kernel
theorem d_O_write_54 : decode b_O_write 54 = .ok (.aload_n 0, 1) := by decide +kernel
theorem d_O_write_55 : decode b_O_write 55 = .ok (.getfield 58, 3) := by decide +kernel
theorem d_O_write_58 : decode b_O_write 58 = .ok (.invokevirtual 143, 3) := by decide +kernel
theorem d_O_write_61 : decode b_O_write 61 = .ok (.aload_n 0, 1) := by decide +kernel
theorem d_O_write_62 : decode b_O_write 62 = .ok (.getfield 35, 3) := by decide +kernel
theorem d_O_write_65 : decode b_O_write 65 = .ok (.iload_n 2, 1) := by decide +kernel
theorem d_O_write_66 : decode b_O_write 66 = .ok (.invokevirtual 113, 3) := by decide +kernel
theorem d_O_write_69 : decode b_O_write 69 = .ok (.aload_n 0, 1) := by decide +kernel
theorem d_O_write_70 : decode b_O_write 70 = .ok (.getfield 9, 3) := by decide +kernel
theorem d_O_write_73 : decode b_O_write 73 = .ok (.invokestatic 201, 3) := by decide +kernel
theorem d_O_write_76 : decode b_O_write 76 = .ok (.istore_n 3, 1) := by decide +kernel
theorem d_O_write_77 : decode b_O_write 77 = .ok (.iconst 0, 1) := by decide +kernel
theorem d_O_write_78 : decode b_O_write 78 = .ok (.istore 4, 2) := by decide +kernel
theorem d_O_write_80 : decode b_O_write 80 = .ok (.iload 4, 2) := by decide +kernel
theorem d_O_write_82 : decode b_O_write 82 = .ok (.iload_n 3, 1) := by decide +kernel
theorem d_O_write_83 : decode b_O_write 83 = .ok (.if_icmp .ge 26, 3) := by decide +kernel
theorem d_O_write_86 : decode b_O_write 86 = .ok (.aload_n 0, 1) := by decide +kernel
theorem d_O_write_87 : decode b_O_write 87 = .ok (.getfield 35, 3) := by decide +kernel
theorem d_O_write_90 : decode b_O_write 90 = .ok (.iload_n 2, 1) := by decide +kernel
theorem d_O_write_91 : decode b_O_write 91 = .ok (.iload 4, 2) := by decide +kernel
theorem d_O_write_93 : decode b_O_write 93 = .ok (.aload_n 0, 1) := by decide +kernel
theorem d_O_write_94 : decode b_O_write 94 = .ok (.getfield 58, 3) := by decide +kernel
theorem d_O_write_97 : decode b_O_write 97 = .ok (.iload 4, 2) := by decide +kernel
theorem d_O_write_99 : decode b_O_write 99 = .ok (.iaload, 1) := by decide +kernel
theorem d_O_write_100 : decode b_O_write 100 = .ok (.invokevirtual 186, 3) := by decide +kernel
theorem d_O_write_103 : decode b_O_write 103 = .ok (.iinc 4 1, 3) := by decide +kernel
theorem d_O_write_106 : decode b_O_write 106 = .ok (.goto (-26), 3) := by decide +kernel
theorem d_O_write_109 : decode b_O_write 109 = .ok (.iload_n 3, 1) := by decide +kernel
theorem d_O_write_110 : decode b_O_write 110 = .ok (.ireturn, 1) := by decide +kernel
theorem d_O_count_0 : decode b_O_count 0 = .ok (.iload_n 1, 1) := by decide +kernel
theorem d_O_count_1 : decode b_O_count 1 = .ok (.tableswitch 109 0 8 #[51, 56, 61, 69, 77, 85, 94, 99, 104], 51) := by decide +kernel
theorem d_O_count_52 : decode b_O_count 52 = .ok (.aload_n 0, 1) := by decide +kernel
theorem d_O_count_53 : decode b_O_count 53 = .ok (.getfield 9, 3) := by decide +kernel
theorem d_O_count_56 : decode b_O_count 56 = .ok (.ireturn, 1) := by decide +kernel
theorem d_O_count_57 : decode b_O_count 57 = .ok (.aload_n 0, 1) := by decide +kernel
theorem d_O_count_58 : decode b_O_count 58 = .ok (.getfield 17, 3) := by decide +kernel
theorem d_O_count_61 : decode b_O_count 61 = .ok (.ireturn, 1) := by decide +kernel
theorem d_O_count_62 : decode b_O_count 62 = .ok (.aload_n 0, 1) := by decide +kernel
theorem d_O_count_63 : decode b_O_count 63 = .ok (.getfield 20, 3) := by decide +kernel
theorem d_O_count_66 : decode b_O_count 66 = .ok (.invokestatic 71, 3) := by decide +kernel
theorem d_O_count_69 : decode b_O_count 69 = .ok (.ireturn, 1) := by decide +kernel
theorem d_O_count_70 : decode b_O_count 70 = .ok (.aload_n 0, 1) := by decide +kernel
theorem d_O_count_71 : decode b_O_count 71 = .ok (.getfield 42, 3) := by decide +kernel
theorem d_O_count_74 : decode b_O_count 74 = .ok (.invokevirtual 127, 3) := by decide +kernel
theorem d_O_count_77 : decode b_O_count 77 = .ok (.ireturn, 1) := by decide +kernel
theorem d_O_count_78 : decode b_O_count 78 = .ok (.aload_n 0, 1) := by decide +kernel
theorem d_O_count_79 : decode b_O_count 79 = .ok (.getfield 42, 3) := by decide +kernel
theorem d_O_count_82 : decode b_O_count 82 = .ok (.invokevirtual 206, 3) := by decide +kernel
theorem d_O_count_85 : decode b_O_count 85 = .ok (.ireturn, 1) := by decide +kernel
theorem d_O_count_86 : decode b_O_count 86 = .ok (.aload_n 0, 1) := by decide +kernel
theorem d_O_count_87 : decode b_O_count 87 = .ok (.getfield 42, 3) := by decide +kernel
theorem d_O_count_90 : decode b_O_count 90 = .ok (.invokevirtual 123, 3) := by decide +kernel
theorem d_O_count_93 : decode b_O_count 93 = .ok (.l2i, 1) := by decide +kernel
theorem d_O_count_94 : decode b_O_count 94 = .ok (.ireturn, 1) := by decide +kernel
theorem d_O_count_95 : decode b_O_count 95 = .ok (.aload_n 0, 1) := by decide +kernel
theorem d_O_count_96 : decode b_O_count 96 = .ok (.getfield 49, 3) := by decide +kernel
theorem d_O_count_99 : decode b_O_count 99 = .ok (.ireturn, 1) := by decide +kernel
theorem d_O_count_100 : decode b_O_count 100 = .ok (.aload_n 0, 1) := by decide +kernel
theorem d_O_count_101 : decode b_O_count 101 = .ok (.getfield 26, 3) := by decide +kernel
theorem d_O_count_104 : decode b_O_count 104 = .ok (.ireturn, 1) := by decide +kernel
theorem d_O_count_105 : decode b_O_count 105 = .ok (.aload_n 0, 1) := by decide +kernel
theorem d_O_count_106 : decode b_O_count 106 = .ok (.getfield 29, 3) := by decide +kernel
theorem d_O_count_109 : decode b_O_count 109 = .ok (.ireturn, 1) := by decide +kernel
theorem d_O_count_110 : decode b_O_count 110 = .ok (.bipush (-2), 2) := by decide +kernel
theorem d_O_count_112 : decode b_O_count 112 = .ok (.ireturn, 1) := by decide +kernel
theorem d_O_digest_0 : decode b_O_digest 0 = .ok (.ldc2_w 209, 3) := by decide +kernel
theorem d_O_digest_3 : decode b_O_digest 3 = .ok (.lstore_n 1, 1) := by decide +kernel
theorem d_O_digest_4 : decode b_O_digest 4 = .ok (.iconst 0, 1) := by decide +kernel
theorem d_O_digest_5 : decode b_O_digest 5 = .ok (.istore_n 3, 1) := by decide +kernel
theorem d_O_digest_6 : decode b_O_digest 6 = .ok (.iload_n 3, 1) := by decide +kernel
theorem d_O_digest_7 : decode b_O_digest 7 = .ok (.bipush 7, 2) := by decide +kernel
theorem d_O_digest_9 : decode b_O_digest 9 = .ok (.if_icmp .gt 22, 3) := by decide +kernel
theorem d_O_digest_12 : decode b_O_digest 12 = .ok (.ldc2_w 211, 3) := by decide +kernel
theorem d_O_digest_15 : decode b_O_digest 15 = .ok (.lload_n 1, 1) := by decide +kernel
theorem d_O_digest_16 : decode b_O_digest 16 = .ok (.lmul, 1) := by decide +kernel
theorem d_O_digest_17 : decode b_O_digest 17 = .ok (.aload_n 0, 1) := by decide +kernel
theorem d_O_digest_18 : decode b_O_digest 18 = .ok (.iload_n 3, 1) := by decide +kernel
theorem d_O_digest_19 : decode b_O_digest 19 = .ok (.invokevirtual 213, 3) := by decide +kernel
theorem d_O_digest_22 : decode b_O_digest 22 = .ok (.i2l, 1) := by decide +kernel
theorem d_O_digest_23 : decode b_O_digest 23 = .ok (.ladd, 1) := by decide +kernel
theorem d_O_digest_24 : decode b_O_digest 24 = .ok (.lstore_n 1, 1) := by decide +kernel
theorem d_O_digest_25 : decode b_O_digest 25 = .ok (.iinc 3 1, 3) := by decide +kernel
theorem d_O_digest_28 : decode b_O_digest 28 = .ok (.goto (-22), 3) := by decide +kernel
theorem d_O_digest_31 : decode b_O_digest 31 = .ok (.iconst 0, 1) := by decide +kernel
theorem d_O_digest_32 : decode b_O_digest 32 = .ok (.istore_n 3, 1) := by decide +kernel
theorem d_O_digest_33 : decode b_O_digest 33 = .ok (.iload_n 3, 1) := by decide +kernel
theorem d_O_digest_34 : decode b_O_digest 34 = .ok (.aload_n 0, 1) := by decide +kernel
theorem d_O_digest_35 : decode b_O_digest 35 = .ok (.getfield 17, 3) := by decide +kernel
theorem d_O_digest_38 : decode b_O_digest 38 = .ok (.if_icmp .ge 35, 3) := by decide +kernel
theorem d_O_digest_41 : decode b_O_digest 41 = .ok (.ldc2_w 211, 3) := by decide +kernel
theorem d_O_digest_44 : decode b_O_digest 44 = .ok (.lload_n 1, 1) := by decide +kernel
theorem d_O_digest_45 : decode b_O_digest 45 = .ok (.lmul, 1) := by decide +kernel
theorem d_O_digest_46 : decode b_O_digest 46 = .ok (.aload_n 0, 1) := by decide +kernel
theorem d_O_digest_47 : decode b_O_digest 47 = .ok (.iload_n 3, 1) := by decide +kernel
theorem d_O_digest_48 : decode b_O_digest 48 = .ok (.invokevirtual 85, 3) := by decide +kernel
theorem d_O_digest_51 : decode b_O_digest 51 = .ok (.i2l, 1) := by decide +kernel
theorem d_O_digest_52 : decode b_O_digest 52 = .ok (.ladd, 1) := by decide +kernel
theorem d_O_digest_53 : decode b_O_digest 53 = .ok (.lstore_n 1, 1) := by decide +kernel
theorem d_O_digest_54 : decode b_O_digest 54 = .ok (.ldc2_w 211, 3) := by decide +kernel
theorem d_O_digest_57 : decode b_O_digest 57 = .ok (.lload_n 1, 1) := by decide +kernel
theorem d_O_digest_58 : decode b_O_digest 58 = .ok (.lmul, 1) := by decide +kernel
theorem d_O_digest_59 : decode b_O_digest 59 = .ok (.aload_n 0, 1) := by decide +kernel
theorem d_O_digest_60 : decode b_O_digest 60 = .ok (.iload_n 3, 1) := by decide +kernel
theorem d_O_digest_61 : decode b_O_digest 61 = .ok (.invokevirtual 216, 3) := by decide +kernel
theorem d_O_digest_64 : decode b_O_digest 64 = .ok (.i2l, 1) := by decide +kernel
theorem d_O_digest_65 : decode b_O_digest 65 = .ok (.ladd, 1) := by decide +kernel
theorem d_O_digest_66 : decode b_O_digest 66 = .ok (.lstore_n 1, 1) := by decide +kernel
theorem d_O_digest_67 : decode b_O_digest 67 = .ok (.iinc 3 1, 3) := by decide +kernel
theorem d_O_digest_70 : decode b_O_digest 70 = .ok (.goto (-37), 3) := by decide +kernel
theorem d_O_digest_73 : decode b_O_digest 73 = .ok (.ldc2_w 211, 3) := by decide +kernel
theorem d_O_digest_76 : decode b_O_digest 76 = .ok (.lload_n 1, 1) := by decide +kernel
theorem d_O_digest_77 : decode b_O_digest 77 = .ok (.lmul, 1) := by decide +kernel
theorem d_O_digest_78 : decode b_O_digest 78 = .ok (.aload_n 0, 1) := by decide +kernel
theorem d_O_digest_79 : decode b_O_digest 79 = .ok (.invokevirtual 219, 3) := by decide +kernel
theorem d_O_digest_82 : decode b_O_digest 82 = .ok (.ladd, 1) := by decide +kernel
theorem d_O_digest_83 : decode b_O_digest 83 = .ok (.lstore_n 1, 1) := by decide +kernel
theorem d_O_digest_84 : decode b_O_digest 84 = .ok (.iconst (-1), 1) := by decide +kernel
theorem d_O_digest_85 : decode b_O_digest 85 = .ok (.istore_n 3, 1) := by decide +kernel
