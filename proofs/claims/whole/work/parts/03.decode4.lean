theorem d_M_rowOf_31 : decode b_M_rowOf 31 = .ok (.iload_n 2, 1) := by decide +kernel
theorem d_M_rowOf_32 : decode b_M_rowOf 32 = .ok (.iaload, 1) := by decide +kernel
theorem d_M_rowOf_33 : decode b_M_rowOf 33 = .ok (.ireturn, 1) := by decide +kernel
theorem d_M_row_0 : decode b_M_row 0 = .ok (.iload_n 1, 1) := by decide +kernel
theorem d_M_row_1 : decode b_M_row 1 = .ok (.iconst 0, 1) := by decide +kernel
theorem d_M_row_2 : decode b_M_row 2 = .ok (.ldc 195, 2) := by decide +kernel
theorem d_M_row_4 : decode b_M_row 4 = .ok (.invokestatic 85, 3) := by decide +kernel
theorem d_M_row_7 : decode b_M_row 7 = .ok (.ifCond .eq 22, 3) := by decide +kernel
theorem d_M_row_10 : decode b_M_row 10 = .ok (.iload_n 2, 1) := by decide +kernel
theorem d_M_row_11 : decode b_M_row 11 = .ok (.iconst 0, 1) := by decide +kernel
theorem d_M_row_12 : decode b_M_row 12 = .ok (.bipush 7, 2) := by decide +kernel
theorem d_M_row_14 : decode b_M_row 14 = .ok (.invokestatic 85, 3) := by decide +kernel
theorem d_M_row_17 : decode b_M_row 17 = .ok (.ifCond .eq 12, 3) := by decide +kernel
theorem d_M_row_20 : decode b_M_row 20 = .ok (.aload_n 0, 1) := by decide +kernel
theorem d_M_row_21 : decode b_M_row 21 = .ok (.iload_n 1, 1) := by decide +kernel
theorem d_M_row_22 : decode b_M_row 22 = .ok (.iload_n 2, 1) := by decide +kernel
theorem d_M_row_23 : decode b_M_row 23 = .ok (.invokevirtual 196, 3) := by decide +kernel
theorem d_M_row_26 : decode b_M_row 26 = .ok (.goto 5, 3) := by decide +kernel
theorem d_M_row_29 : decode b_M_row 29 = .ok (.bipush (-2), 2) := by decide +kernel
theorem d_M_row_31 : decode b_M_row 31 = .ok (.ireturn, 1) := by decide +kernel
theorem d_M_isSet_0 : decode b_M_isSet 0 = .ok (.iload_n 1, 1) := by decide +kernel
theorem d_M_isSet_1 : decode b_M_isSet 1 = .ok (.iconst 0, 1) := by decide +kernel
theorem d_M_isSet_2 : decode b_M_isSet 2 = .ok (.sipush 255, 3) := by decide +kernel
theorem d_M_isSet_5 : decode b_M_isSet 5 = .ok (.invokestatic 85, 3) := by decide +kernel
theorem d_M_isSet_8 : decode b_M_isSet 8 = .ok (.ifCond .eq 18, 3) := by decide +kernel
theorem d_M_isSet_11 : decode b_M_isSet 11 = .ok (.iload_n 1, 1) := by decide +kernel
theorem d_M_isSet_12 : decode b_M_isSet 12 = .ok (.aload_n 0, 1) := by decide +kernel
theorem d_M_isSet_13 : decode b_M_isSet 13 = .ok (.invokevirtual 110, 3) := by decide +kernel
theorem d_M_isSet_16 : decode b_M_isSet 16 = .ok (.iconst (-1), 1) := by decide +kernel
theorem d_M_isSet_17 : decode b_M_isSet 17 = .ok (.ixor, 1) := by decide +kernel
theorem d_M_isSet_18 : decode b_M_isSet 18 = .ok (.iand, 1) := by decide +kernel
theorem d_M_isSet_19 : decode b_M_isSet 19 = .ok (.ifCond .ne 7, 3) := by decide +kernel
theorem d_M_isSet_22 : decode b_M_isSet 22 = .ok (.iconst 1, 1) := by decide +kernel
theorem d_M_isSet_23 : decode b_M_isSet 23 = .ok (.goto 4, 3) := by decide +kernel
theorem d_M_isSet_26 : decode b_M_isSet 26 = .ok (.iconst 0, 1) := by decide +kernel
theorem d_M_isSet_27 : decode b_M_isSet 27 = .ok (.ireturn, 1) := by decide +kernel
theorem d_M_may_0 : decode b_M_may 0 = .ok (.aload_n 0, 1) := by decide +kernel
theorem d_M_may_1 : decode b_M_may 1 = .ok (.iload_n 1, 1) := by decide +kernel
theorem d_M_may_2 : decode b_M_may 2 = .ok (.invokevirtual 199, 3) := by decide +kernel
theorem d_M_may_5 : decode b_M_may 5 = .ok (.ifCond .eq 23, 3) := by decide +kernel
theorem d_M_may_8 : decode b_M_may 8 = .ok (.aload_n 0, 1) := by decide +kernel
theorem d_M_may_9 : decode b_M_may 9 = .ok (.aload_n 0, 1) := by decide +kernel
theorem d_M_may_10 : decode b_M_may 10 = .ok (.invokevirtual 96, 3) := by decide +kernel
theorem d_M_may_13 : decode b_M_may 13 = .ok (.iload_n 1, 1) := by decide +kernel
theorem d_M_may_14 : decode b_M_may 14 = .ok (.invokevirtual 117, 3) := by decide +kernel
theorem d_M_may_17 : decode b_M_may 17 = .ok (.ifCond .le 7, 3) := by decide +kernel
theorem d_M_may_20 : decode b_M_may 20 = .ok (.iconst 1, 1) := by decide +kernel
theorem d_M_may_21 : decode b_M_may 21 = .ok (.goto 9, 3) := by decide +kernel
theorem d_M_may_24 : decode b_M_may 24 = .ok (.iconst 0, 1) := by decide +kernel
theorem d_M_may_25 : decode b_M_may 25 = .ok (.goto 5, 3) := by decide +kernel
theorem d_M_may_28 : decode b_M_may 28 = .ok (.bipush (-2), 2) := by decide +kernel
theorem d_M_may_30 : decode b_M_may 30 = .ok (.ireturn, 1) := by decide +kernel
theorem d_M_mustOf_0 : decode b_M_mustOf 0 = .ok (.aload_n 0, 1) := by decide +kernel
theorem d_M_mustOf_1 : decode b_M_mustOf 1 = .ok (.invokevirtual 96, 3) := by decide +kernel
theorem d_M_mustOf_4 : decode b_M_mustOf 4 = .ok (.istore_n 2, 1) := by decide +kernel
theorem d_M_mustOf_5 : decode b_M_mustOf 5 = .ok (.aload_n 0, 1) := by decide +kernel
theorem d_M_mustOf_6 : decode b_M_mustOf 6 = .ok (.iload_n 2, 1) := by decide +kernel
theorem d_M_mustOf_7 : decode b_M_mustOf 7 = .ok (.iconst 0, 1) := by decide +kernel
theorem d_M_mustOf_8 : decode b_M_mustOf 8 = .ok (.invokevirtual 117, 3) := by decide +kernel
theorem d_M_mustOf_11 : decode b_M_mustOf 11 = .ok (.istore_n 3, 1) := by decide +kernel
theorem d_M_mustOf_12 : decode b_M_mustOf 12 = .ok (.aload_n 0, 1) := by decide +kernel
theorem d_M_mustOf_13 : decode b_M_mustOf 13 = .ok (.iload_n 2, 1) := by decide +kernel
theorem d_M_mustOf_14 : decode b_M_mustOf 14 = .ok (.iload_n 1, 1) := by decide +kernel
theorem d_M_mustOf_15 : decode b_M_mustOf 15 = .ok (.invokevirtual 117, 3) := by decide +kernel
theorem d_M_mustOf_18 : decode b_M_mustOf 18 = .ok (.iload_n 3, 1) := by decide +kernel
theorem d_M_mustOf_19 : decode b_M_mustOf 19 = .ok (.if_icmp .ne 7, 3) := by decide +kernel
theorem d_M_mustOf_22 : decode b_M_mustOf 22 = .ok (.iconst 1, 1) := by decide +kernel
theorem d_M_mustOf_23 : decode b_M_mustOf 23 = .ok (.goto 4, 3) := by decide +kernel
theorem d_M_mustOf_26 : decode b_M_mustOf 26 = .ok (.iconst 0, 1) := by decide +kernel
theorem d_M_mustOf_27 : decode b_M_mustOf 27 = .ok (.ireturn, 1) := by decide +kernel
theorem d_M_must_0 : decode b_M_must 0 = .ok (.aload_n 0, 1) := by decide +kernel
theorem d_M_must_1 : decode b_M_must 1 = .ok (.iload_n 1, 1) := by decide +kernel
theorem d_M_must_2 : decode b_M_must 2 = .ok (.invokevirtual 199, 3) := by decide +kernel
theorem d_M_must_5 : decode b_M_must 5 = .ok (.ifCond .eq 11, 3) := by decide +kernel
theorem d_M_must_8 : decode b_M_must 8 = .ok (.aload_n 0, 1) := by decide +kernel
theorem d_M_must_9 : decode b_M_must 9 = .ok (.iload_n 1, 1) := by decide +kernel
theorem d_M_must_10 : decode b_M_must 10 = .ok (.invokevirtual 202, 3) := by decide +kernel
theorem d_M_must_13 : decode b_M_must 13 = .ok (.goto 5, 3) := by decide +kernel
theorem d_M_must_16 : decode b_M_must 16 = .ok (.bipush (-2), 2) := by decide +kernel
theorem d_M_must_18 : decode b_M_must 18 = .ok (.ireturn, 1) := by decide +kernel
theorem d_M_spansFrom_0 : decode b_M_spansFrom 0 = .ok (.iconst 0, 1) := by decide +kernel
theorem d_M_spansFrom_1 : decode b_M_spansFrom 1 = .ok (.istore_n 3, 1) := by decide +kernel
theorem d_M_spansFrom_2 : decode b_M_spansFrom 2 = .ok (.iload_n 3, 1) := by decide +kernel
theorem d_M_spansFrom_3 : decode b_M_spansFrom 3 = .ok (.aload_n 0, 1) := by decide +kernel
theorem d_M_spansFrom_4 : decode b_M_spansFrom 4 = .ok (.invokevirtual 110, 3) := by decide +kernel
theorem d_M_spansFrom_7 : decode b_M_spansFrom 7 = .ok (.if_icmp .gt 16, 3) := by decide +kernel
theorem d_M_spansFrom_10 : decode b_M_spansFrom 10 = .ok (.aload_n 0, 1) := by decide +kernel
theorem d_M_spansFrom_11 : decode b_M_spansFrom 11 = .ok (.getfield 59, 3) := by decide +kernel
theorem d_M_spansFrom_14 : decode b_M_spansFrom 14 = .ok (.iload_n 3, 1) := by decide +kernel
theorem d_M_spansFrom_15 : decode b_M_spansFrom 15 = .ok (.iconst 0, 1) := by decide +kernel
theorem d_M_spansFrom_16 : decode b_M_spansFrom 16 = .ok (.iastore, 1) := by decide +kernel
theorem d_M_spansFrom_17 : decode b_M_spansFrom 17 = .ok (.iinc 3 1, 3) := by decide +kernel
theorem d_M_spansFrom_20 : decode b_M_spansFrom 20 = .ok (.goto (-18), 3) := by decide +kernel
theorem d_M_spansFrom_23 : decode b_M_spansFrom 23 = .ok (.iconst 0, 1) := by decide +kernel
theorem d_M_spansFrom_24 : decode b_M_spansFrom 24 = .ok (.istore_n 3, 1) := by decide +kernel
theorem d_M_spansFrom_25 : decode b_M_spansFrom 25 = .ok (.iload_n 3, 1) := by decide +kernel
theorem d_M_spansFrom_26 : decode b_M_spansFrom 26 = .ok (.aload_n 0, 1) := by decide +kernel
theorem d_M_spansFrom_27 : decode b_M_spansFrom 27 = .ok (.invokevirtual 110, 3) := by decide +kernel
theorem d_M_spansFrom_30 : decode b_M_spansFrom 30 = .ok (.if_icmp .ge 220, 3) := by decide +kernel
theorem d_M_spansFrom_33 : decode b_M_spansFrom 33 = .ok (.iconst 0, 1) := by decide +kernel
theorem d_M_spansFrom_34 : decode b_M_spansFrom 34 = .ok (.istore 4, 2) := by decide +kernel
theorem d_M_spansFrom_36 : decode b_M_spansFrom 36 = .ok (.iload 4, 2) := by decide +kernel
theorem d_M_spansFrom_38 : decode b_M_spansFrom 38 = .ok (.aload_n 0, 1) := by decide +kernel
theorem d_M_spansFrom_39 : decode b_M_spansFrom 39 = .ok (.getfield 7, 3) := by decide +kernel
theorem d_M_spansFrom_42 : decode b_M_spansFrom 42 = .ok (.if_icmp .ge 98, 3) := by decide +kernel
theorem d_M_spansFrom_45 : decode b_M_spansFrom 45 = .ok (.iload_n 3, 1) := by decide +kernel
theorem d_M_spansFrom_46 : decode b_M_spansFrom 46 = .ok (.iconst 1, 1) := by decide +kernel
theorem d_M_spansFrom_47 : decode b_M_spansFrom 47 = .ok (.iload 4, 2) := by decide +kernel
theorem d_M_spansFrom_49 : decode b_M_spansFrom 49 = .ok (.ishl, 1) := by decide +kernel
theorem d_M_spansFrom_50 : decode b_M_spansFrom 50 = .ok (.ior, 1) := by decide +kernel
theorem d_M_spansFrom_51 : decode b_M_spansFrom 51 = .ok (.istore 5, 2) := by decide +kernel
theorem d_M_spansFrom_53 : decode b_M_spansFrom 53 = .ok (.aload_n 0, 1) := by decide +kernel
theorem d_M_spansFrom_54 : decode b_M_spansFrom 54 = .ok (.getfield 20, 3) := by decide +kernel
theorem d_M_spansFrom_57 : decode b_M_spansFrom 57 = .ok (.iload_n 3, 1) := by decide +kernel
theorem d_M_spansFrom_58 : decode b_M_spansFrom 58 = .ok (.iaload, 1) := by decide +kernel
theorem d_M_spansFrom_59 : decode b_M_spansFrom 59 = .ok (.iload 4, 2) := by decide +kernel
theorem d_M_spansFrom_61 : decode b_M_spansFrom 61 = .ok (.invokestatic 81, 3) := by decide +kernel
theorem d_M_spansFrom_64 : decode b_M_spansFrom 64 = .ok (.ifCond .eq 21, 3) := by decide +kernel
theorem d_M_spansFrom_67 : decode b_M_spansFrom 67 = .ok (.iload_n 3, 1) := by decide +kernel
theorem d_M_spansFrom_68 : decode b_M_spansFrom 68 = .ok (.iload_n 2, 1) := by decide +kernel
theorem d_M_spansFrom_69 : decode b_M_spansFrom 69 = .ok (.invokestatic 81, 3) := by decide +kernel
theorem d_M_spansFrom_72 : decode b_M_spansFrom 72 = .ok (.ifCond .ne 13, 3) := by decide +kernel
theorem d_M_spansFrom_75 : decode b_M_spansFrom 75 = .ok (.iload 4, 2) := by decide +kernel
theorem d_M_spansFrom_77 : decode b_M_spansFrom 77 = .ok (.iload_n 2, 1) := by decide +kernel
theorem d_M_spansFrom_78 : decode b_M_spansFrom 78 = .ok (.if_icmp .eq 7, 3) := by decide +kernel
theorem d_M_spansFrom_81 : decode b_M_spansFrom 81 = .ok (.iconst 1, 1) := by decide +kernel
theorem d_M_spansFrom_82 : decode b_M_spansFrom 82 = .ok (.goto 4, 3) := by decide +kernel
theorem d_M_spansFrom_85 : decode b_M_spansFrom 85 = .ok (.iconst 0, 1) := by decide +kernel
theorem d_M_spansFrom_86 : decode b_M_spansFrom 86 = .ok (.istore 6, 2) := by decide +kernel
theorem d_M_spansFrom_88 : decode b_M_spansFrom 88 = .ok (.aload_n 0, 1) := by decide +kernel
theorem d_M_spansFrom_89 : decode b_M_spansFrom 89 = .ok (.getfield 59, 3) := by decide +kernel
theorem d_M_spansFrom_92 : decode b_M_spansFrom 92 = .ok (.iload 5, 2) := by decide +kernel
theorem d_M_spansFrom_94 : decode b_M_spansFrom 94 = .ok (.dup2, 1) := by decide +kernel
theorem d_M_spansFrom_95 : decode b_M_spansFrom 95 = .ok (.iaload, 1) := by decide +kernel
theorem d_M_spansFrom_96 : decode b_M_spansFrom 96 = .ok (.iload 6, 2) := by decide +kernel
theorem d_M_spansFrom_98 : decode b_M_spansFrom 98 = .ok (.ifCond .eq 19, 3) := by decide +kernel
theorem d_M_spansFrom_101 : decode b_M_spansFrom 101 = .ok (.iload 4, 2) := by decide +kernel
theorem d_M_spansFrom_103 : decode b_M_spansFrom 103 = .ok (.iload_n 1, 1) := by decide +kernel
theorem d_M_spansFrom_104 : decode b_M_spansFrom 104 = .ok (.if_icmp .ne 13, 3) := by decide +kernel
theorem d_M_spansFrom_107 : decode b_M_spansFrom 107 = .ok (.iconst 1, 1) := by decide +kernel
theorem d_M_spansFrom_108 : decode b_M_spansFrom 108 = .ok (.iload 5, 2) := by decide +kernel
theorem d_M_spansFrom_110 : decode b_M_spansFrom 110 = .ok (.invokestatic 89, 3) := by decide +kernel
theorem d_M_spansFrom_113 : decode b_M_spansFrom 113 = .ok (.ishl, 1) := by decide +kernel
theorem d_M_spansFrom_114 : decode b_M_spansFrom 114 = .ok (.goto 18, 3) := by decide +kernel
theorem d_M_spansFrom_117 : decode b_M_spansFrom 117 = .ok (.iload 6, 2) := by decide +kernel
theorem d_M_spansFrom_119 : decode b_M_spansFrom 119 = .ok (.ifCond .eq 12, 3) := by decide +kernel
theorem d_M_spansFrom_122 : decode b_M_spansFrom 122 = .ok (.aload_n 0, 1) := by decide +kernel
theorem d_M_spansFrom_123 : decode b_M_spansFrom 123 = .ok (.getfield 59, 3) := by decide +kernel
theorem d_M_spansFrom_126 : decode b_M_spansFrom 126 = .ok (.iload_n 3, 1) := by decide +kernel
theorem d_M_spansFrom_127 : decode b_M_spansFrom 127 = .ok (.iaload, 1) := by decide +kernel
theorem d_M_spansFrom_128 : decode b_M_spansFrom 128 = .ok (.goto 4, 3) := by decide +kernel
theorem d_M_spansFrom_131 : decode b_M_spansFrom 131 = .ok (.iconst 0, 1) := by decide +kernel
theorem d_M_spansFrom_132 : decode b_M_spansFrom 132 = .ok (.ior, 1) := by decide +kernel
theorem d_M_spansFrom_133 : decode b_M_spansFrom 133 = .ok (.iastore, 1) := by decide +kernel
theorem d_M_spansFrom_134 : decode b_M_spansFrom 134 = .ok (.iinc 4 1, 3) := by decide +kernel
theorem d_M_spansFrom_137 : decode b_M_spansFrom 137 = .ok (.goto (-101), 3) := by decide +kernel
theorem d_M_spansFrom_140 : decode b_M_spansFrom 140 = .ok (.iconst 0, 1) := by decide +kernel
theorem d_M_spansFrom_141 : decode b_M_spansFrom 141 = .ok (.istore 4, 2) := by decide +kernel
theorem d_M_spansFrom_143 : decode b_M_spansFrom 143 = .ok (.iload 4, 2) := by decide +kernel
theorem d_M_spansFrom_145 : decode b_M_spansFrom 145 = .ok (.bipush 9, 2) := by decide +kernel
theorem d_M_spansFrom_147 : decode b_M_spansFrom 147 = .ok (.if_icmp .ge 97, 3) := by decide +kernel
theorem d_M_spansFrom_150 : decode b_M_spansFrom 150 = .ok (.aload_n 0, 1) := by decide +kernel
theorem d_M_spansFrom_151 : decode b_M_spansFrom 151 = .ok (.getfield 20, 3) := by decide +kernel
theorem d_M_spansFrom_154 : decode b_M_spansFrom 154 = .ok (.iload_n 3, 1) := by decide +kernel
theorem d_M_spansFrom_155 : decode b_M_spansFrom 155 = .ok (.iaload, 1) := by decide +kernel
theorem d_M_spansFrom_156 : decode b_M_spansFrom 156 = .ok (.iload_n 2, 1) := by decide +kernel
theorem d_M_spansFrom_157 : decode b_M_spansFrom 157 = .ok (.invokestatic 81, 3) := by decide +kernel
theorem d_M_spansFrom_160 : decode b_M_spansFrom 160 = .ok (.ifCond .eq 84, 3) := by decide +kernel
theorem d_M_spansFrom_163 : decode b_M_spansFrom 163 = .ok (.aload_n 0, 1) := by decide +kernel
theorem d_M_spansFrom_164 : decode b_M_spansFrom 164 = .ok (.getfield 59, 3) := by decide +kernel
theorem d_M_spansFrom_167 : decode b_M_spansFrom 167 = .ok (.iload_n 3, 1) := by decide +kernel
theorem d_M_spansFrom_168 : decode b_M_spansFrom 168 = .ok (.iaload, 1) := by decide +kernel
theorem d_M_spansFrom_169 : decode b_M_spansFrom 169 = .ok (.iload 4, 2) := by decide +kernel
theorem d_M_spansFrom_171 : decode b_M_spansFrom 171 = .ok (.invokestatic 81, 3) := by decide +kernel
theorem d_M_spansFrom_174 : decode b_M_spansFrom 174 = .ok (.ifCond .eq 64, 3) := by decide +kernel
theorem d_M_spansFrom_177 : decode b_M_spansFrom 177 = .ok (.iload_n 3, 1) := by decide +kernel
theorem d_M_spansFrom_178 : decode b_M_spansFrom 178 = .ok (.invokestatic 89, 3) := by decide +kernel
theorem d_M_spansFrom_181 : decode b_M_spansFrom 181 = .ok (.iload 4, 2) := by decide +kernel
theorem d_M_spansFrom_183 : decode b_M_spansFrom 183 = .ok (.isub, 1) := by decide +kernel
theorem d_M_spansFrom_184 : decode b_M_spansFrom 184 = .ok (.istore 5, 2) := by decide +kernel
theorem d_M_spansFrom_186 : decode b_M_spansFrom 186 = .ok (.aload_n 0, 1) := by decide +kernel
theorem d_M_spansFrom_187 : decode b_M_spansFrom 187 = .ok (.aload_n 0, 1) := by decide +kernel
theorem d_M_spansFrom_188 : decode b_M_spansFrom 188 = .ok (.getfield 205, 3) := by decide +kernel
theorem d_M_spansFrom_191 : decode b_M_spansFrom 191 = .ok (.iconst (-1), 1) := by decide +kernel
theorem d_M_spansFrom_192 : decode b_M_spansFrom 192 = .ok (.if_icmp .eq 12, 3) := by decide +kernel
theorem d_M_spansFrom_195 : decode b_M_spansFrom 195 = .ok (.iload 5, 2) := by decide +kernel
theorem d_M_spansFrom_197 : decode b_M_spansFrom 197 = .ok (.aload_n 0, 1) := by decide +kernel
theorem d_M_spansFrom_198 : decode b_M_spansFrom 198 = .ok (.getfield 205, 3) := by decide +kernel
theorem d_M_spansFrom_201 : decode b_M_spansFrom 201 = .ok (.if_icmp .ge 8, 3) := by decide +kernel
theorem d_M_spansFrom_204 : decode b_M_spansFrom 204 = .ok (.iload 5, 2) := by decide +kernel
theorem d_M_spansFrom_206 : decode b_M_spansFrom 206 = .ok (.goto 7, 3) := by decide +kernel
theorem d_M_spansFrom_209 : decode b_M_spansFrom 209 = .ok (.aload_n 0, 1) := by decide +kernel
theorem d_M_spansFrom_210 : decode b_M_spansFrom 210 = .ok (.getfield 205, 3) := by decide +kernel
theorem d_M_spansFrom_213 : decode b_M_spansFrom 213 = .ok (.putfield 205, 3) := by decide +kernel
theorem d_M_spansFrom_216 : decode b_M_spansFrom 216 = .ok (.aload_n 0, 1) := by decide +kernel
theorem d_M_spansFrom_217 : decode b_M_spansFrom 217 = .ok (.iload 5, 2) := by decide +kernel
theorem d_M_spansFrom_219 : decode b_M_spansFrom 219 = .ok (.aload_n 0, 1) := by decide +kernel
theorem d_M_spansFrom_220 : decode b_M_spansFrom 220 = .ok (.getfield 208, 3) := by decide +kernel
theorem d_M_spansFrom_223 : decode b_M_spansFrom 223 = .ok (.if_icmp .le 8, 3) := by decide +kernel
theorem d_M_spansFrom_226 : decode b_M_spansFrom 226 = .ok (.iload 5, 2) := by decide +kernel
theorem d_M_spansFrom_228 : decode b_M_spansFrom 228 = .ok (.goto 7, 3) := by decide +kernel
theorem d_M_spansFrom_231 : decode b_M_spansFrom 231 = .ok (.aload_n 0, 1) := by decide +kernel
theorem d_M_spansFrom_232 : decode b_M_spansFrom 232 = .ok (.getfield 208, 3) := by decide +kernel
theorem d_M_spansFrom_235 : decode b_M_spansFrom 235 = .ok (.putfield 208, 3) := by decide +kernel
theorem d_M_spansFrom_238 : decode b_M_spansFrom 238 = .ok (.iinc 4 1, 3) := by decide +kernel
theorem d_M_spansFrom_241 : decode b_M_spansFrom 241 = .ok (.goto (-98), 3) := by decide +kernel
theorem d_M_spansFrom_244 : decode b_M_spansFrom 244 = .ok (.iinc 3 1, 3) := by decide +kernel
theorem d_M_spansFrom_247 : decode b_M_spansFrom 247 = .ok (.goto (-222), 3) := by decide +kernel
theorem d_M_spansFrom_250 : decode b_M_spansFrom 250 = .ok (.return_, 1) := by decide +kernel
theorem d_M_apartOf_0 : decode b_M_apartOf 0 = .ok (.aload_n 0, 1) := by decide +kernel
theorem d_M_apartOf_1 : decode b_M_apartOf 1 = .ok (.invokevirtual 130, 3) := by decide +kernel
theorem d_M_apartOf_4 : decode b_M_apartOf 4 = .ok (.aload_n 0, 1) := by decide +kernel
theorem d_M_apartOf_5 : decode b_M_apartOf 5 = .ok (.iconst (-1), 1) := by decide +kernel
theorem d_M_apartOf_6 : decode b_M_apartOf 6 = .ok (.putfield 205, 3) := by decide +kernel
theorem d_M_apartOf_9 : decode b_M_apartOf 9 = .ok (.aload_n 0, 1) := by decide +kernel
theorem d_M_apartOf_10 : decode b_M_apartOf 10 = .ok (.iconst (-1), 1) := by decide +kernel
theorem d_M_apartOf_11 : decode b_M_apartOf 11 = .ok (.putfield 208, 3) := by decide +kernel
theorem d_M_apartOf_14 : decode b_M_apartOf 14 = .ok (.aload_n 0, 1) := by decide +kernel
theorem d_M_apartOf_15 : decode b_M_apartOf 15 = .ok (.iload_n 1, 1) := by decide +kernel
theorem d_M_apartOf_16 : decode b_M_apartOf 16 = .ok (.iload_n 2, 1) := by decide +kernel
theorem d_M_apartOf_17 : decode b_M_apartOf 17 = .ok (.invokevirtual 211, 3) := by decide +kernel
theorem d_M_apartOf_20 : decode b_M_apartOf 20 = .ok (.aload_n 0, 1) := by decide +kernel
theorem d_M_apartOf_21 : decode b_M_apartOf 21 = .ok (.iload_n 2, 1) := by decide +kernel
theorem d_M_apartOf_22 : decode b_M_apartOf 22 = .ok (.iload_n 1, 1) := by decide +kernel
theorem d_M_apartOf_23 : decode b_M_apartOf 23 = .ok (.invokevirtual 211, 3) := by decide +kernel
theorem d_M_apartOf_26 : decode b_M_apartOf 26 = .ok (.iload_n 3, 1) := by decide +kernel
theorem d_M_apartOf_27 : decode b_M_apartOf 27 = .ok (.ifCond .ne 10, 3) := by decide +kernel
theorem d_M_apartOf_30 : decode b_M_apartOf 30 = .ok (.aload_n 0, 1) := by decide +kernel
theorem d_M_apartOf_31 : decode b_M_apartOf 31 = .ok (.getfield 205, 3) := by decide +kernel
theorem d_M_apartOf_34 : decode b_M_apartOf 34 = .ok (.goto 7, 3) := by decide +kernel
theorem d_M_apartOf_37 : decode b_M_apartOf 37 = .ok (.aload_n 0, 1) := by decide +kernel
theorem d_M_apartOf_38 : decode b_M_apartOf 38 = .ok (.getfield 208, 3) := by decide +kernel
theorem d_M_apartOf_41 : decode b_M_apartOf 41 = .ok (.ireturn, 1) := by decide +kernel
theorem d_M_isThing_0 : decode b_M_isThing 0 = .ok (.iload_n 1, 1) := by decide +kernel
theorem d_M_isThing_1 : decode b_M_isThing 1 = .ok (.iconst 0, 1) := by decide +kernel
theorem d_M_isThing_2 : decode b_M_isThing 2 = .ok (.aload_n 0, 1) := by decide +kernel
theorem d_M_isThing_3 : decode b_M_isThing 3 = .ok (.getfield 7, 3) := by decide +kernel
theorem d_M_isThing_6 : decode b_M_isThing 6 = .ok (.iconst 1, 1) := by decide +kernel
theorem d_M_isThing_7 : decode b_M_isThing 7 = .ok (.isub, 1) := by decide +kernel
theorem d_M_isThing_8 : decode b_M_isThing 8 = .ok (.invokestatic 85, 3) := by decide +kernel
theorem d_M_isThing_11 : decode b_M_isThing 11 = .ok (.ireturn, 1) := by decide +kernel
theorem d_M_apart_0 : decode b_M_apart 0 = .ok (.aload_n 0, 1) := by decide +kernel
theorem d_M_apart_1 : decode b_M_apart 1 = .ok (.iload_n 1, 1) := by decide +kernel
theorem d_M_apart_2 : decode b_M_apart 2 = .ok (.invokevirtual 214, 3) := by decide +kernel
theorem d_M_apart_5 : decode b_M_apart 5 = .ok (.ifCond .eq 35, 3) := by decide +kernel
theorem d_M_apart_8 : decode b_M_apart 8 = .ok (.aload_n 0, 1) := by decide +kernel
theorem d_M_apart_9 : decode b_M_apart 9 = .ok (.iload_n 2, 1) := by decide +kernel
theorem d_M_apart_10 : decode b_M_apart 10 = .ok (.invokevirtual 214, 3) := by decide +kernel
theorem d_M_apart_13 : decode b_M_apart 13 = .ok (.ifCond .eq 27, 3) := by decide +kernel
theorem d_M_apart_16 : decode b_M_apart 16 = .ok (.iload_n 1, 1) := by decide +kernel
theorem d_M_apart_17 : decode b_M_apart 17 = .ok (.iload_n 2, 1) := by decide +kernel
theorem d_M_apart_18 : decode b_M_apart 18 = .ok (.if_icmp .eq 22, 3) := by decide +kernel
theorem d_M_apart_21 : decode b_M_apart 21 = .ok (.iload_n 3, 1) := by decide +kernel
theorem d_M_apart_22 : decode b_M_apart 22 = .ok (.iconst 0, 1) := by decide +kernel
theorem d_M_apart_23 : decode b_M_apart 23 = .ok (.iconst 1, 1) := by decide +kernel
theorem d_M_apart_24 : decode b_M_apart 24 = .ok (.invokestatic 85, 3) := by decide +kernel
theorem d_M_apart_27 : decode b_M_apart 27 = .ok (.ifCond .eq 13, 3) := by decide +kernel
theorem d_M_apart_30 : decode b_M_apart 30 = .ok (.aload_n 0, 1) := by decide +kernel
theorem d_M_apart_31 : decode b_M_apart 31 = .ok (.iload_n 1, 1) := by decide +kernel
theorem d_M_apart_32 : decode b_M_apart 32 = .ok (.iload_n 2, 1) := by decide +kernel
theorem d_M_apart_33 : decode b_M_apart 33 = .ok (.iload_n 3, 1) := by decide +kernel
theorem d_M_apart_34 : decode b_M_apart 34 = .ok (.invokevirtual 217, 3) := by decide +kernel
theorem d_M_apart_37 : decode b_M_apart 37 = .ok (.goto 5, 3) := by decide +kernel
theorem d_M_apart_40 : decode b_M_apart 40 = .ok (.bipush (-2), 2) := by decide +kernel
theorem d_M_apart_42 : decode b_M_apart 42 = .ok (.ireturn, 1) := by decide +kernel
theorem d_M_spareOf_0 : decode b_M_spareOf 0 = .ok (.aload_n 0, 1) := by decide +kernel
theorem d_M_spareOf_1 : decode b_M_spareOf 1 = .ok (.invokevirtual 96, 3) := by decide +kernel
theorem d_M_spareOf_4 : decode b_M_spareOf 4 = .ok (.istore_n 1, 1) := by decide +kernel
theorem d_M_spareOf_5 : decode b_M_spareOf 5 = .ok (.aload_n 0, 1) := by decide +kernel
theorem d_M_spareOf_6 : decode b_M_spareOf 6 = .ok (.iload_n 1, 1) := by decide +kernel
theorem d_M_spareOf_7 : decode b_M_spareOf 7 = .ok (.iconst 0, 1) := by decide +kernel
theorem d_M_spareOf_8 : decode b_M_spareOf 8 = .ok (.invokevirtual 117, 3) := by decide +kernel
theorem d_M_spareOf_11 : decode b_M_spareOf 11 = .ok (.istore_n 2, 1) := by decide +kernel
theorem d_M_spareOf_12 : decode b_M_spareOf 12 = .ok (.iconst 0, 1) := by decide +kernel
theorem d_M_spareOf_13 : decode b_M_spareOf 13 = .ok (.istore_n 3, 1) := by decide +kernel
theorem d_M_spareOf_14 : decode b_M_spareOf 14 = .ok (.iconst 0, 1) := by decide +kernel
theorem d_M_spareOf_15 : decode b_M_spareOf 15 = .ok (.istore 4, 2) := by decide +kernel
theorem d_M_spareOf_17 : decode b_M_spareOf 17 = .ok (.iload 4, 2) := by decide +kernel
theorem d_M_spareOf_19 : decode b_M_spareOf 19 = .ok (.aload_n 0, 1) := by decide +kernel
theorem d_M_spareOf_20 : decode b_M_spareOf 20 = .ok (.getfield 93, 3) := by decide +kernel
theorem d_M_spareOf_23 : decode b_M_spareOf 23 = .ok (.if_icmp .ge 46, 3) := by decide +kernel
theorem d_M_spareOf_26 : decode b_M_spareOf 26 = .ok (.iload_n 3, 1) := by decide +kernel
theorem d_M_spareOf_27 : decode b_M_spareOf 27 = .ok (.iload_n 1, 1) := by decide +kernel
theorem d_M_spareOf_28 : decode b_M_spareOf 28 = .ok (.iload 4, 2) := by decide +kernel
theorem d_M_spareOf_30 : decode b_M_spareOf 30 = .ok (.invokestatic 81, 3) := by decide +kernel
theorem d_M_spareOf_33 : decode b_M_spareOf 33 = .ok (.ifCond .eq 27, 3) := by decide +kernel
theorem d_M_spareOf_36 : decode b_M_spareOf 36 = .ok (.aload_n 0, 1) := by decide +kernel
theorem d_M_spareOf_37 : decode b_M_spareOf 37 = .ok (.iload_n 1, 1) := by decide +kernel
theorem d_M_spareOf_38 : decode b_M_spareOf 38 = .ok (.iconst 1, 1) := by decide +kernel
theorem d_M_spareOf_39 : decode b_M_spareOf 39 = .ok (.iload 4, 2) := by decide +kernel
theorem d_M_spareOf_41 : decode b_M_spareOf 41 = .ok (.ishl, 1) := by decide +kernel
theorem d_M_spareOf_42 : decode b_M_spareOf 42 = .ok (.iconst (-1), 1) := by decide +kernel
theorem d_M_spareOf_43 : decode b_M_spareOf 43 = .ok (.ixor, 1) := by decide +kernel
theorem d_M_spareOf_44 : decode b_M_spareOf 44 = .ok (.iand, 1) := by decide +kernel
theorem d_M_spareOf_45 : decode b_M_spareOf 45 = .ok (.iconst 0, 1) := by decide +kernel
theorem d_M_spareOf_46 : decode b_M_spareOf 46 = .ok (.invokevirtual 117, 3) := by decide +kernel
theorem d_M_spareOf_49 : decode b_M_spareOf 49 = .ok (.iload_n 2, 1) := by decide +kernel
theorem d_M_spareOf_50 : decode b_M_spareOf 50 = .ok (.if_icmp .ne 10, 3) := by decide +kernel
theorem d_M_spareOf_53 : decode b_M_spareOf 53 = .ok (.iconst 1, 1) := by decide +kernel
theorem d_M_spareOf_54 : decode b_M_spareOf 54 = .ok (.iload 4, 2) := by decide +kernel
theorem d_M_spareOf_56 : decode b_M_spareOf 56 = .ok (.ishl, 1) := by decide +kernel
theorem d_M_spareOf_57 : decode b_M_spareOf 57 = .ok (.goto 4, 3) := by decide +kernel
theorem d_M_spareOf_60 : decode b_M_spareOf 60 = .ok (.iconst 0, 1) := by decide +kernel
theorem d_M_spareOf_61 : decode b_M_spareOf 61 = .ok (.ior, 1) := by decide +kernel
theorem d_M_spareOf_62 : decode b_M_spareOf 62 = .ok (.istore_n 3, 1) := by decide +kernel
theorem d_M_spareOf_63 : decode b_M_spareOf 63 = .ok (.iinc 4 1, 3) := by decide +kernel
theorem d_M_spareOf_66 : decode b_M_spareOf 66 = .ok (.goto (-49), 3) := by decide +kernel
theorem d_M_spareOf_69 : decode b_M_spareOf 69 = .ok (.iload_n 3, 1) := by decide +kernel
theorem d_M_spareOf_70 : decode b_M_spareOf 70 = .ok (.ireturn, 1) := by decide +kernel
theorem d_M_spare_0 : decode b_M_spare 0 = .ok (.aload_n 0, 1) := by decide +kernel
theorem d_M_spare_1 : decode b_M_spare 1 = .ok (.invokevirtual 220, 3) := by decide +kernel
theorem d_M_spare_4 : decode b_M_spare 4 = .ok (.ireturn, 1) := by decide +kernel
theorem d_M_type_0 : decode b_M_type 0 = .ok (.iload_n 1, 1) := by decide +kernel
theorem d_M_type_1 : decode b_M_type 1 = .ok (.iconst 0, 1) := by decide +kernel
theorem d_M_type_2 : decode b_M_type 2 = .ok (.sipush 255, 3) := by decide +kernel
theorem d_M_type_5 : decode b_M_type 5 = .ok (.invokestatic 85, 3) := by decide +kernel
theorem d_M_type_8 : decode b_M_type 8 = .ok (.ifCond .ne 6, 3) := by decide +kernel
theorem d_M_type_11 : decode b_M_type 11 = .ok (.bipush (-2), 2) := by decide +kernel
theorem d_M_type_13 : decode b_M_type 13 = .ok (.ireturn, 1) := by decide +kernel
theorem d_M_type_14 : decode b_M_type 14 = .ok (.aload_n 0, 1) := by decide +kernel
theorem d_M_type_15 : decode b_M_type 15 = .ok (.getfield 223, 3) := by decide +kernel
theorem d_M_type_18 : decode b_M_type 18 = .ok (.bipush 8, 2) := by decide +kernel
theorem d_M_type_20 : decode b_M_type 20 = .ok (.if_icmp .ne 6, 3) := by decide +kernel
theorem d_M_type_23 : decode b_M_type 23 = .ok (.bipush (-4), 2) := by decide +kernel
theorem d_M_type_25 : decode b_M_type 25 = .ok (.ireturn, 1) := by decide +kernel
theorem d_M_type_26 : decode b_M_type 26 = .ok (.aload_n 0, 1) := by decide +kernel
theorem d_M_type_27 : decode b_M_type 27 = .ok (.getfield 62, 3) := by decide +kernel
theorem d_M_type_30 : decode b_M_type 30 = .ok (.aload_n 0, 1) := by decide +kernel
theorem d_M_type_31 : decode b_M_type 31 = .ok (.getfield 223, 3) := by decide +kernel
theorem d_M_type_34 : decode b_M_type 34 = .ok (.iload_n 1, 1) := by decide +kernel
theorem d_M_type_35 : decode b_M_type 35 = .ok (.iastore, 1) := by decide +kernel
theorem d_M_type_36 : decode b_M_type 36 = .ok (.aload_n 0, 1) := by decide +kernel
theorem d_M_type_37 : decode b_M_type 37 = .ok (.dup, 1) := by decide +kernel
theorem d_M_type_38 : decode b_M_type 38 = .ok (.getfield 223, 3) := by decide +kernel
theorem d_M_type_41 : decode b_M_type 41 = .ok (.iconst 1, 1) := by decide +kernel
theorem d_M_type_42 : decode b_M_type 42 = .ok (.iadd, 1) := by decide +kernel
theorem d_M_type_43 : decode b_M_type 43 = .ok (.putfield 223, 3) := by decide +kernel
theorem d_M_type_46 : decode b_M_type 46 = .ok (.aload_n 0, 1) := by decide +kernel
theorem d_M_type_47 : decode b_M_type 47 = .ok (.getfield 223, 3) := by decide +kernel
theorem d_M_type_50 : decode b_M_type 50 = .ok (.ireturn, 1) := by decide +kernel
theorem d_M_wipe_0 : decode b_M_wipe 0 = .ok (.aload_n 0, 1) := by decide +kernel
theorem d_M_wipe_1 : decode b_M_wipe 1 = .ok (.getfield 223, 3) := by decide +kernel
theorem d_M_wipe_4 : decode b_M_wipe 4 = .ok (.istore_n 1, 1) := by decide +kernel
theorem d_M_wipe_5 : decode b_M_wipe 5 = .ok (.aload_n 0, 1) := by decide +kernel
theorem d_M_wipe_6 : decode b_M_wipe 6 = .ok (.iconst 0, 1) := by decide +kernel
theorem d_M_wipe_7 : decode b_M_wipe 7 = .ok (.putfield 223, 3) := by decide +kernel
theorem d_M_wipe_10 : decode b_M_wipe 10 = .ok (.iload_n 1, 1) := by decide +kernel
theorem d_M_wipe_11 : decode b_M_wipe 11 = .ok (.ireturn, 1) := by decide +kernel
theorem d_M_undo_0 : decode b_M_undo 0 = .ok (.aload_n 0, 1) := by decide +kernel
theorem d_M_undo_1 : decode b_M_undo 1 = .ok (.getfield 223, 3) := by decide +kernel
theorem d_M_undo_4 : decode b_M_undo 4 = .ok (.ifCond .ne 6, 3) := by decide +kernel
theorem d_M_undo_7 : decode b_M_undo 7 = .ok (.bipush (-3), 2) := by decide +kernel
theorem d_M_undo_9 : decode b_M_undo 9 = .ok (.ireturn, 1) := by decide +kernel
theorem d_M_undo_10 : decode b_M_undo 10 = .ok (.aload_n 0, 1) := by decide +kernel
theorem d_M_undo_11 : decode b_M_undo 11 = .ok (.dup, 1) := by decide +kernel
theorem d_M_undo_12 : decode b_M_undo 12 = .ok (.getfield 223, 3) := by decide +kernel
theorem d_M_undo_15 : decode b_M_undo 15 = .ok (.iconst 1, 1) := by decide +kernel
theorem d_M_undo_16 : decode b_M_undo 16 = .ok (.isub, 1) := by decide +kernel
theorem d_M_undo_17 : decode b_M_undo 17 = .ok (.putfield 223, 3) := by decide +kernel
theorem d_M_undo_20 : decode b_M_undo 20 = .ok (.aload_n 0, 1) := by decide +kernel
theorem d_M_undo_21 : decode b_M_undo 21 = .ok (.getfield 223, 3) := by decide +kernel
theorem d_M_undo_24 : decode b_M_undo 24 = .ok (.ireturn, 1) := by decide +kernel
theorem d_M_faultOf_0 : decode b_M_faultOf 0 = .ok (.iconst 0, 1) := by decide +kernel
theorem d_M_faultOf_1 : decode b_M_faultOf 1 = .ok (.istore_n 1, 1) := by decide +kernel
theorem d_M_faultOf_2 : decode b_M_faultOf 2 = .ok (.iconst 0, 1) := by decide +kernel
theorem d_M_faultOf_3 : decode b_M_faultOf 3 = .ok (.istore_n 2, 1) := by decide +kernel
theorem d_M_faultOf_4 : decode b_M_faultOf 4 = .ok (.iload_n 2, 1) := by decide +kernel
theorem d_M_faultOf_5 : decode b_M_faultOf 5 = .ok (.aload_n 0, 1) := by decide +kernel
theorem d_M_faultOf_6 : decode b_M_faultOf 6 = .ok (.getfield 223, 3) := by decide +kernel
theorem d_M_faultOf_9 : decode b_M_faultOf 9 = .ok (.if_icmp .ge 43, 3) := by decide +kernel
theorem d_M_faultOf_12 : decode b_M_faultOf 12 = .ok (.aload_n 0, 1) := by decide +kernel
theorem d_M_faultOf_13 : decode b_M_faultOf 13 = .ok (.getfield 62, 3) := by decide +kernel
theorem d_M_faultOf_16 : decode b_M_faultOf 16 = .ok (.iload_n 2, 1) := by decide +kernel
theorem d_M_faultOf_17 : decode b_M_faultOf 17 = .ok (.iaload, 1) := by decide +kernel
theorem d_M_faultOf_18 : decode b_M_faultOf 18 = .ok (.bipush 97, 2) := by decide +kernel
theorem d_M_faultOf_20 : decode b_M_faultOf 20 = .ok (.isub, 1) := by decide +kernel
theorem d_M_faultOf_21 : decode b_M_faultOf 21 = .ok (.istore_n 3, 1) := by decide +kernel
theorem d_M_faultOf_22 : decode b_M_faultOf 22 = .ok (.aload_n 0, 1) := by decide +kernel
theorem d_M_faultOf_23 : decode b_M_faultOf 23 = .ok (.iload_n 3, 1) := by decide +kernel
theorem d_M_faultOf_24 : decode b_M_faultOf 24 = .ok (.invokevirtual 214, 3) := by decide +kernel
theorem d_M_faultOf_27 : decode b_M_faultOf 27 = .ok (.ifCond .eq 11, 3) := by decide +kernel
theorem d_M_faultOf_30 : decode b_M_faultOf 30 = .ok (.iload_n 1, 1) := by decide +kernel
theorem d_M_faultOf_31 : decode b_M_faultOf 31 = .ok (.iload_n 3, 1) := by decide +kernel
theorem d_M_faultOf_32 : decode b_M_faultOf 32 = .ok (.invokestatic 81, 3) := by decide +kernel
theorem d_M_faultOf_35 : decode b_M_faultOf 35 = .ok (.ifCond .eq 5, 3) := by decide +kernel
theorem d_M_faultOf_38 : decode b_M_faultOf 38 = .ok (.iload_n 2, 1) := by decide +kernel
theorem d_M_faultOf_39 : decode b_M_faultOf 39 = .ok (.ireturn, 1) := by decide +kernel
theorem d_M_faultOf_40 : decode b_M_faultOf 40 = .ok (.iload_n 1, 1) := by decide +kernel
theorem d_M_faultOf_41 : decode b_M_faultOf 41 = .ok (.iconst 1, 1) := by decide +kernel
theorem d_M_faultOf_42 : decode b_M_faultOf 42 = .ok (.iload_n 3, 1) := by decide +kernel
theorem d_M_faultOf_43 : decode b_M_faultOf 43 = .ok (.ishl, 1) := by decide +kernel
theorem d_M_faultOf_44 : decode b_M_faultOf 44 = .ok (.ior, 1) := by decide +kernel
theorem d_M_faultOf_45 : decode b_M_faultOf 45 = .ok (.istore_n 1, 1) := by decide +kernel
theorem d_M_faultOf_46 : decode b_M_faultOf 46 = .ok (.iinc 2 1, 3) := by decide +kernel
theorem d_M_faultOf_49 : decode b_M_faultOf 49 = .ok (.goto (-45), 3) := by decide +kernel
theorem d_M_faultOf_52 : decode b_M_faultOf 52 = .ok (.aload_n 0, 1) := by decide +kernel
theorem d_M_faultOf_53 : decode b_M_faultOf 53 = .ok (.getfield 223, 3) := by decide +kernel
theorem d_M_faultOf_56 : decode b_M_faultOf 56 = .ok (.ifCond .le 21, 3) := by decide +kernel
theorem d_M_faultOf_59 : decode b_M_faultOf 59 = .ok (.aload_n 0, 1) := by decide +kernel
theorem d_M_faultOf_60 : decode b_M_faultOf 60 = .ok (.getfield 223, 3) := by decide +kernel
theorem d_M_faultOf_63 : decode b_M_faultOf 63 = .ok (.aload_n 0, 1) := by decide +kernel
theorem d_M_faultOf_64 : decode b_M_faultOf 64 = .ok (.getfield 7, 3) := by decide +kernel
theorem d_M_faultOf_67 : decode b_M_faultOf 67 = .ok (.if_icmp .ge 10, 3) := by decide +kernel
theorem d_M_faultOf_70 : decode b_M_faultOf 70 = .ok (.aload_n 0, 1) := by decide +kernel
theorem d_M_faultOf_71 : decode b_M_faultOf 71 = .ok (.getfield 223, 3) := by decide +kernel
theorem d_M_faultOf_74 : decode b_M_faultOf 74 = .ok (.goto 4, 3) := by decide +kernel
theorem d_M_faultOf_77 : decode b_M_faultOf 77 = .ok (.iconst (-1), 1) := by decide +kernel
theorem d_M_faultOf_78 : decode b_M_faultOf 78 = .ok (.ireturn, 1) := by decide +kernel
theorem d_M_fault_0 : decode b_M_fault 0 = .ok (.aload_n 0, 1) := by decide +kernel
theorem d_M_fault_1 : decode b_M_fault 1 = .ok (.invokevirtual 226, 3) := by decide +kernel
theorem d_M_fault_4 : decode b_M_fault 4 = .ok (.ireturn, 1) := by decide +kernel
theorem d_M_isRow_0 : decode b_M_isRow 0 = .ok (.aload_n 0, 1) := by decide +kernel
theorem d_M_isRow_1 : decode b_M_isRow 1 = .ok (.getfield 223, 3) := by decide +kernel
theorem d_M_isRow_4 : decode b_M_isRow 4 = .ok (.ifCond .le 15, 3) := by decide +kernel
theorem d_M_isRow_7 : decode b_M_isRow 7 = .ok (.aload_n 0, 1) := by decide +kernel
theorem d_M_isRow_8 : decode b_M_isRow 8 = .ok (.invokevirtual 226, 3) := by decide +kernel
theorem d_M_isRow_11 : decode b_M_isRow 11 = .ok (.iconst (-1), 1) := by decide +kernel
theorem d_M_isRow_12 : decode b_M_isRow 12 = .ok (.if_icmp .ne 7, 3) := by decide +kernel
theorem d_M_isRow_15 : decode b_M_isRow 15 = .ok (.iconst 1, 1) := by decide +kernel
theorem d_M_isRow_16 : decode b_M_isRow 16 = .ok (.goto 4, 3) := by decide +kernel
theorem d_M_isRow_19 : decode b_M_isRow 19 = .ok (.iconst 0, 1) := by decide +kernel
theorem d_M_isRow_20 : decode b_M_isRow 20 = .ok (.ireturn, 1) := by decide +kernel
theorem d_M_isHad_0 : decode b_M_isHad 0 = .ok (.iconst 0, 1) := by decide +kernel
theorem d_M_isHad_1 : decode b_M_isHad 1 = .ok (.istore_n 2, 1) := by decide +kernel
theorem d_M_isHad_2 : decode b_M_isHad 2 = .ok (.iconst 1, 1) := by decide +kernel
theorem d_M_isHad_3 : decode b_M_isHad 3 = .ok (.istore_n 3, 1) := by decide +kernel
theorem d_M_isHad_4 : decode b_M_isHad 4 = .ok (.iconst 0, 1) := by decide +kernel
theorem d_M_isHad_5 : decode b_M_isHad 5 = .ok (.istore 4, 2) := by decide +kernel
theorem d_M_isHad_7 : decode b_M_isHad 7 = .ok (.iload 4, 2) := by decide +kernel
theorem d_M_isHad_9 : decode b_M_isHad 9 = .ok (.aload_n 0, 1) := by decide +kernel
theorem d_M_isHad_10 : decode b_M_isHad 10 = .ok (.getfield 223, 3) := by decide +kernel
theorem d_M_isHad_13 : decode b_M_isHad 13 = .ok (.if_icmp .ge 61, 3) := by decide +kernel
theorem d_M_isHad_16 : decode b_M_isHad 16 = .ok (.iconst 1, 1) := by decide +kernel
theorem d_M_isHad_17 : decode b_M_isHad 17 = .ok (.aload_n 0, 1) := by decide +kernel
theorem d_M_isHad_18 : decode b_M_isHad 18 = .ok (.getfield 62, 3) := by decide +kernel
theorem d_M_isHad_21 : decode b_M_isHad 21 = .ok (.iload 4, 2) := by decide +kernel
theorem d_M_isHad_23 : decode b_M_isHad 23 = .ok (.iaload, 1) := by decide +kernel
theorem d_M_isHad_24 : decode b_M_isHad 24 = .ok (.bipush 97, 2) := by decide +kernel
theorem d_M_isHad_26 : decode b_M_isHad 26 = .ok (.isub, 1) := by decide +kernel
theorem d_M_isHad_27 : decode b_M_isHad 27 = .ok (.ishl, 1) := by decide +kernel
theorem d_M_isHad_28 : decode b_M_isHad 28 = .ok (.istore 5, 2) := by decide +kernel
theorem d_M_isHad_30 : decode b_M_isHad 30 = .ok (.iload_n 2, 1) := by decide +kernel
theorem d_M_isHad_31 : decode b_M_isHad 31 = .ok (.iload_n 1, 1) := by decide +kernel
theorem d_M_isHad_32 : decode b_M_isHad 32 = .ok (.iand, 1) := by decide +kernel
theorem d_M_isHad_33 : decode b_M_isHad 33 = .ok (.istore 6, 2) := by decide +kernel
theorem d_M_isHad_35 : decode b_M_isHad 35 = .ok (.iload_n 3, 1) := by decide +kernel
theorem d_M_isHad_36 : decode b_M_isHad 36 = .ok (.ifCond .eq 25, 3) := by decide +kernel
theorem d_M_isHad_39 : decode b_M_isHad 39 = .ok (.iload 6, 2) := by decide +kernel
theorem d_M_isHad_41 : decode b_M_isHad 41 = .ok (.ifCond .eq 16, 3) := by decide +kernel
theorem d_M_isHad_44 : decode b_M_isHad 44 = .ok (.iload 6, 2) := by decide +kernel
theorem d_M_isHad_46 : decode b_M_isHad 46 = .ok (.iload_n 1, 1) := by decide +kernel
theorem d_M_isHad_47 : decode b_M_isHad 47 = .ok (.if_icmp .eq 10, 3) := by decide +kernel
theorem d_M_isHad_50 : decode b_M_isHad 50 = .ok (.iload 5, 2) := by decide +kernel
theorem d_M_isHad_52 : decode b_M_isHad 52 = .ok (.iload_n 1, 1) := by decide +kernel
theorem d_M_isHad_53 : decode b_M_isHad 53 = .ok (.iand, 1) := by decide +kernel
theorem d_M_isHad_54 : decode b_M_isHad 54 = .ok (.ifCond .eq 7, 3) := by decide +kernel
theorem d_M_isHad_57 : decode b_M_isHad 57 = .ok (.iconst 1, 1) := by decide +kernel
theorem d_M_isHad_58 : decode b_M_isHad 58 = .ok (.goto 4, 3) := by decide +kernel
theorem d_M_isHad_61 : decode b_M_isHad 61 = .ok (.iconst 0, 1) := by decide +kernel
theorem d_M_isHad_62 : decode b_M_isHad 62 = .ok (.istore_n 3, 1) := by decide +kernel
theorem d_M_isHad_63 : decode b_M_isHad 63 = .ok (.iload_n 2, 1) := by decide +kernel
theorem d_M_isHad_64 : decode b_M_isHad 64 = .ok (.iload 5, 2) := by decide +kernel
theorem d_M_isHad_66 : decode b_M_isHad 66 = .ok (.ior, 1) := by decide +kernel
theorem d_M_isHad_67 : decode b_M_isHad 67 = .ok (.istore_n 2, 1) := by decide +kernel
theorem d_M_isHad_68 : decode b_M_isHad 68 = .ok (.iinc 4 1, 3) := by decide +kernel
theorem d_M_isHad_71 : decode b_M_isHad 71 = .ok (.goto (-64), 3) := by decide +kernel
theorem d_M_isHad_74 : decode b_M_isHad 74 = .ok (.iload_n 3, 1) := by decide +kernel
theorem d_M_isHad_75 : decode b_M_isHad 75 = .ok (.ireturn, 1) := by decide +kernel
theorem d_M_missesOf_0 : decode b_M_missesOf 0 = .ok (.iconst 0, 1) := by decide +kernel
theorem d_M_missesOf_1 : decode b_M_missesOf 1 = .ok (.istore_n 1, 1) := by decide +kernel
theorem d_M_missesOf_2 : decode b_M_missesOf 2 = .ok (.iconst 0, 1) := by decide +kernel
theorem d_M_missesOf_3 : decode b_M_missesOf 3 = .ok (.istore_n 2, 1) := by decide +kernel
theorem d_M_missesOf_4 : decode b_M_missesOf 4 = .ok (.iload_n 2, 1) := by decide +kernel
theorem d_M_missesOf_5 : decode b_M_missesOf 5 = .ok (.aload_n 0, 1) := by decide +kernel
theorem d_M_missesOf_6 : decode b_M_missesOf 6 = .ok (.getfield 93, 3) := by decide +kernel
theorem d_M_missesOf_9 : decode b_M_missesOf 9 = .ok (.if_icmp .ge 37, 3) := by decide +kernel
theorem d_M_missesOf_12 : decode b_M_missesOf 12 = .ok (.iload_n 1, 1) := by decide +kernel
theorem d_M_missesOf_13 : decode b_M_missesOf 13 = .ok (.aload_n 0, 1) := by decide +kernel
theorem d_M_missesOf_14 : decode b_M_missesOf 14 = .ok (.aload_n 0, 1) := by decide +kernel
theorem d_M_missesOf_15 : decode b_M_missesOf 15 = .ok (.getfield 13, 3) := by decide +kernel
theorem d_M_missesOf_18 : decode b_M_missesOf 18 = .ok (.iload_n 2, 1) := by decide +kernel
theorem d_M_missesOf_19 : decode b_M_missesOf 19 = .ok (.iaload, 1) := by decide +kernel
theorem d_M_missesOf_20 : decode b_M_missesOf 20 = .ok (.aload_n 0, 1) := by decide +kernel
theorem d_M_missesOf_21 : decode b_M_missesOf 21 = .ok (.invokevirtual 110, 3) := by decide +kernel
theorem d_M_missesOf_24 : decode b_M_missesOf 24 = .ok (.iand, 1) := by decide +kernel
theorem d_M_missesOf_25 : decode b_M_missesOf 25 = .ok (.invokevirtual 229, 3) := by decide +kernel
theorem d_M_missesOf_28 : decode b_M_missesOf 28 = .ok (.ifCond .eq 7, 3) := by decide +kernel
theorem d_M_missesOf_31 : decode b_M_missesOf 31 = .ok (.iconst 0, 1) := by decide +kernel
theorem d_M_missesOf_32 : decode b_M_missesOf 32 = .ok (.goto 6, 3) := by decide +kernel
theorem d_M_missesOf_35 : decode b_M_missesOf 35 = .ok (.iconst 1, 1) := by decide +kernel
theorem d_M_missesOf_36 : decode b_M_missesOf 36 = .ok (.iload_n 2, 1) := by decide +kernel
theorem d_M_missesOf_37 : decode b_M_missesOf 37 = .ok (.ishl, 1) := by decide +kernel
theorem d_M_missesOf_38 : decode b_M_missesOf 38 = .ok (.ior, 1) := by decide +kernel
theorem d_M_missesOf_39 : decode b_M_missesOf 39 = .ok (.istore_n 1, 1) := by decide +kernel
theorem d_M_missesOf_40 : decode b_M_missesOf 40 = .ok (.iinc 2 1, 3) := by decide +kernel
theorem d_M_missesOf_43 : decode b_M_missesOf 43 = .ok (.goto (-39), 3) := by decide +kernel
theorem d_M_missesOf_46 : decode b_M_missesOf 46 = .ok (.iload_n 1, 1) := by decide +kernel
theorem d_M_missesOf_47 : decode b_M_missesOf 47 = .ok (.ireturn, 1) := by decide +kernel
theorem d_M_misses_0 : decode b_M_misses 0 = .ok (.aload_n 0, 1) := by decide +kernel
theorem d_M_misses_1 : decode b_M_misses 1 = .ok (.invokevirtual 232, 3) := by decide +kernel
theorem d_M_misses_4 : decode b_M_misses 4 = .ok (.ifCond .eq 10, 3) := by decide +kernel
theorem d_M_misses_7 : decode b_M_misses 7 = .ok (.aload_n 0, 1) := by decide +kernel
theorem d_M_misses_8 : decode b_M_misses 8 = .ok (.invokevirtual 236, 3) := by decide +kernel
theorem d_M_misses_11 : decode b_M_misses 11 = .ok (.goto 5, 3) := by decide +kernel
theorem d_M_misses_14 : decode b_M_misses 14 = .ok (.bipush (-3), 2) := by decide +kernel
theorem d_M_misses_16 : decode b_M_misses 16 = .ok (.ireturn, 1) := by decide +kernel
theorem d_M_placeOf_0 : decode b_M_placeOf 0 = .ok (.iconst 0, 1) := by decide +kernel
theorem d_M_placeOf_1 : decode b_M_placeOf 1 = .ok (.istore_n 2, 1) := by decide +kernel
theorem d_M_placeOf_2 : decode b_M_placeOf 2 = .ok (.iload_n 1, 1) := by decide +kernel
theorem d_M_placeOf_3 : decode b_M_placeOf 3 = .ok (.aload_n 0, 1) := by decide +kernel
theorem d_M_placeOf_4 : decode b_M_placeOf 4 = .ok (.getfield 62, 3) := by decide +kernel
theorem d_M_placeOf_7 : decode b_M_placeOf 7 = .ok (.iload_n 2, 1) := by decide +kernel
theorem d_M_placeOf_8 : decode b_M_placeOf 8 = .ok (.iaload, 1) := by decide +kernel
theorem d_M_placeOf_9 : decode b_M_placeOf 9 = .ok (.bipush 97, 2) := by decide +kernel
theorem d_M_placeOf_11 : decode b_M_placeOf 11 = .ok (.isub, 1) := by decide +kernel
theorem d_M_placeOf_12 : decode b_M_placeOf 12 = .ok (.invokestatic 81, 3) := by decide +kernel
theorem d_M_placeOf_15 : decode b_M_placeOf 15 = .ok (.ifCond .ne 9, 3) := by decide +kernel
theorem d_M_placeOf_18 : decode b_M_placeOf 18 = .ok (.iinc 2 1, 3) := by decide +kernel
theorem d_M_placeOf_21 : decode b_M_placeOf 21 = .ok (.goto (-19), 3) := by decide +kernel
theorem d_M_placeOf_24 : decode b_M_placeOf 24 = .ok (.iload_n 2, 1) := by decide +kernel
theorem d_M_placeOf_25 : decode b_M_placeOf 25 = .ok (.ireturn, 1) := by decide +kernel
theorem d_M_wayTold_0 : decode b_M_wayTold 0 = .ok (.aload_n 0, 1) := by decide +kernel
theorem d_M_wayTold_1 : decode b_M_wayTold 1 = .ok (.getfield 35, 3) := by decide +kernel
theorem d_M_wayTold_4 : decode b_M_wayTold 4 = .ok (.iload_n 1, 1) := by decide +kernel
theorem d_M_wayTold_5 : decode b_M_wayTold 5 = .ok (.iaload, 1) := by decide +kernel
theorem d_M_wayTold_6 : decode b_M_wayTold 6 = .ok (.istore_n 2, 1) := by decide +kernel
theorem d_M_wayTold_7 : decode b_M_wayTold 7 = .ok (.bipush 8, 2) := by decide +kernel
theorem d_M_wayTold_9 : decode b_M_wayTold 9 = .ok (.iload_n 1, 1) := by decide +kernel
theorem d_M_wayTold_10 : decode b_M_wayTold 10 = .ok (.imul, 1) := by decide +kernel
theorem d_M_wayTold_11 : decode b_M_wayTold 11 = .ok (.istore_n 3, 1) := by decide +kernel
theorem d_M_wayTold_12 : decode b_M_wayTold 12 = .ok (.aload_n 0, 1) := by decide +kernel
theorem d_M_wayTold_13 : decode b_M_wayTold 13 = .ok (.getfield 32, 3) := by decide +kernel
theorem d_M_wayTold_16 : decode b_M_wayTold 16 = .ok (.iload_n 1, 1) := by decide +kernel
theorem d_M_wayTold_17 : decode b_M_wayTold 17 = .ok (.iaload, 1) := by decide +kernel
theorem d_M_wayTold_18 : decode b_M_wayTold 18 = .ok (.iconst 1, 1) := by decide +kernel
theorem d_M_wayTold_19 : decode b_M_wayTold 19 = .ok (.if_icmp .ne 36, 3) := by decide +kernel
theorem d_M_wayTold_22 : decode b_M_wayTold 22 = .ok (.aload_n 0, 1) := by decide +kernel
theorem d_M_wayTold_23 : decode b_M_wayTold 23 = .ok (.aload_n 0, 1) := by decide +kernel
theorem d_M_wayTold_24 : decode b_M_wayTold 24 = .ok (.getfield 38, 3) := by decide +kernel
theorem d_M_wayTold_27 : decode b_M_wayTold 27 = .ok (.iload_n 3, 1) := by decide +kernel
theorem d_M_wayTold_28 : decode b_M_wayTold 28 = .ok (.iaload, 1) := by decide +kernel
theorem d_M_wayTold_29 : decode b_M_wayTold 29 = .ok (.invokevirtual 239, 3) := by decide +kernel
theorem d_M_wayTold_32 : decode b_M_wayTold 32 = .ok (.aload_n 0, 1) := by decide +kernel
theorem d_M_wayTold_33 : decode b_M_wayTold 33 = .ok (.aload_n 0, 1) := by decide +kernel
theorem d_M_wayTold_34 : decode b_M_wayTold 34 = .ok (.getfield 38, 3) := by decide +kernel
theorem d_M_wayTold_37 : decode b_M_wayTold 37 = .ok (.iload_n 3, 1) := by decide +kernel
theorem d_M_wayTold_38 : decode b_M_wayTold 38 = .ok (.iload_n 2, 1) := by decide +kernel
theorem d_M_wayTold_39 : decode b_M_wayTold 39 = .ok (.iadd, 1) := by decide +kernel
theorem d_M_wayTold_40 : decode b_M_wayTold 40 = .ok (.iconst 1, 1) := by decide +kernel
theorem d_M_wayTold_41 : decode b_M_wayTold 41 = .ok (.isub, 1) := by decide +kernel
theorem d_M_wayTold_42 : decode b_M_wayTold 42 = .ok (.iaload, 1) := by decide +kernel
theorem d_M_wayTold_43 : decode b_M_wayTold 43 = .ok (.invokevirtual 239, 3) := by decide +kernel
theorem d_M_wayTold_46 : decode b_M_wayTold 46 = .ok (.if_icmp .ge 7, 3) := by decide +kernel
theorem d_M_wayTold_49 : decode b_M_wayTold 49 = .ok (.iconst 0, 1) := by decide +kernel
theorem d_M_wayTold_50 : decode b_M_wayTold 50 = .ok (.goto 4, 3) := by decide +kernel
theorem d_M_wayTold_53 : decode b_M_wayTold 53 = .ok (.iconst 1, 1) := by decide +kernel
theorem d_M_wayTold_54 : decode b_M_wayTold 54 = .ok (.ireturn, 1) := by decide +kernel
theorem d_M_wayTold_55 : decode b_M_wayTold 55 = .ok (.iconst 0, 1) := by decide +kernel
theorem d_M_wayTold_56 : decode b_M_wayTold 56 = .ok (.istore 4, 2) := by decide +kernel
theorem d_M_wayTold_58 : decode b_M_wayTold 58 = .ok (.iconst 0, 1) := by decide +kernel
theorem d_M_wayTold_59 : decode b_M_wayTold 59 = .ok (.istore 5, 2) := by decide +kernel
theorem d_M_wayTold_61 : decode b_M_wayTold 61 = .ok (.iload 5, 2) := by decide +kernel
theorem d_M_wayTold_63 : decode b_M_wayTold 63 = .ok (.iload_n 2, 1) := by decide +kernel
theorem d_M_wayTold_64 : decode b_M_wayTold 64 = .ok (.if_icmp .ge 175, 3) := by decide +kernel
theorem d_M_wayTold_67 : decode b_M_wayTold 67 = .ok (.iconst 0, 1) := by decide +kernel
theorem d_M_wayTold_68 : decode b_M_wayTold 68 = .ok (.istore 6, 2) := by decide +kernel
theorem d_M_wayTold_70 : decode b_M_wayTold 70 = .ok (.iconst 0, 1) := by decide +kernel
theorem d_M_wayTold_71 : decode b_M_wayTold 71 = .ok (.istore 7, 2) := by decide +kernel
theorem d_M_wayTold_73 : decode b_M_wayTold 73 = .ok (.iload 7, 2) := by decide +kernel
theorem d_M_wayTold_75 : decode b_M_wayTold 75 = .ok (.iload_n 2, 1) := by decide +kernel
theorem d_M_wayTold_76 : decode b_M_wayTold 76 = .ok (.if_icmp .ge 82, 3) := by decide +kernel
theorem d_M_wayTold_79 : decode b_M_wayTold 79 = .ok (.iconst 0, 1) := by decide +kernel
theorem d_M_wayTold_80 : decode b_M_wayTold 80 = .ok (.istore 8, 2) := by decide +kernel
theorem d_M_wayTold_82 : decode b_M_wayTold 82 = .ok (.iconst 0, 1) := by decide +kernel
theorem d_M_wayTold_83 : decode b_M_wayTold 83 = .ok (.istore 9, 2) := by decide +kernel
theorem d_M_wayTold_85 : decode b_M_wayTold 85 = .ok (.iload 9, 2) := by decide +kernel
theorem d_M_wayTold_87 : decode b_M_wayTold 87 = .ok (.iload_n 2, 1) := by decide +kernel
theorem d_M_wayTold_88 : decode b_M_wayTold 88 = .ok (.if_icmp .ge 48, 3) := by decide +kernel
theorem d_M_wayTold_91 : decode b_M_wayTold 91 = .ok (.iload 8, 2) := by decide +kernel
theorem d_M_wayTold_93 : decode b_M_wayTold 93 = .ok (.aload_n 0, 1) := by decide +kernel
theorem d_M_wayTold_94 : decode b_M_wayTold 94 = .ok (.aload_n 0, 1) := by decide +kernel
theorem d_M_wayTold_95 : decode b_M_wayTold 95 = .ok (.getfield 38, 3) := by decide +kernel
theorem d_M_wayTold_98 : decode b_M_wayTold 98 = .ok (.iload_n 3, 1) := by decide +kernel
theorem d_M_wayTold_99 : decode b_M_wayTold 99 = .ok (.iload 9, 2) := by decide +kernel
theorem d_M_wayTold_101 : decode b_M_wayTold 101 = .ok (.iadd, 1) := by decide +kernel
theorem d_M_wayTold_102 : decode b_M_wayTold 102 = .ok (.iaload, 1) := by decide +kernel
theorem d_M_wayTold_103 : decode b_M_wayTold 103 = .ok (.invokevirtual 239, 3) := by decide +kernel
theorem d_M_wayTold_106 : decode b_M_wayTold 106 = .ok (.aload_n 0, 1) := by decide +kernel
theorem d_M_wayTold_107 : decode b_M_wayTold 107 = .ok (.aload_n 0, 1) := by decide +kernel
theorem d_M_wayTold_108 : decode b_M_wayTold 108 = .ok (.getfield 38, 3) := by decide +kernel
theorem d_M_wayTold_111 : decode b_M_wayTold 111 = .ok (.iload_n 3, 1) := by decide +kernel
theorem d_M_wayTold_112 : decode b_M_wayTold 112 = .ok (.iload 7, 2) := by decide +kernel
theorem d_M_wayTold_114 : decode b_M_wayTold 114 = .ok (.iadd, 1) := by decide +kernel
theorem d_M_wayTold_115 : decode b_M_wayTold 115 = .ok (.iaload, 1) := by decide +kernel
theorem d_M_wayTold_116 : decode b_M_wayTold 116 = .ok (.invokevirtual 239, 3) := by decide +kernel
theorem d_M_wayTold_119 : decode b_M_wayTold 119 = .ok (.if_icmp .ge 7, 3) := by decide +kernel
theorem d_M_wayTold_122 : decode b_M_wayTold 122 = .ok (.iconst 1, 1) := by decide +kernel
theorem d_M_wayTold_123 : decode b_M_wayTold 123 = .ok (.goto 4, 3) := by decide +kernel
theorem d_M_wayTold_126 : decode b_M_wayTold 126 = .ok (.iconst 0, 1) := by decide +kernel
theorem d_M_wayTold_127 : decode b_M_wayTold 127 = .ok (.iadd, 1) := by decide +kernel
theorem d_M_wayTold_128 : decode b_M_wayTold 128 = .ok (.istore 8, 2) := by decide +kernel
theorem d_M_wayTold_130 : decode b_M_wayTold 130 = .ok (.iinc 9 1, 3) := by decide +kernel
theorem d_M_wayTold_133 : decode b_M_wayTold 133 = .ok (.goto (-48), 3) := by decide +kernel
theorem d_M_wayTold_136 : decode b_M_wayTold 136 = .ok (.iload 8, 2) := by decide +kernel
theorem d_M_wayTold_138 : decode b_M_wayTold 138 = .ok (.iload 5, 2) := by decide +kernel
theorem d_M_wayTold_140 : decode b_M_wayTold 140 = .ok (.if_icmp .ne 8, 3) := by decide +kernel
theorem d_M_wayTold_143 : decode b_M_wayTold 143 = .ok (.iload 7, 2) := by decide +kernel
theorem d_M_wayTold_145 : decode b_M_wayTold 145 = .ok (.goto 5, 3) := by decide +kernel
theorem d_M_wayTold_148 : decode b_M_wayTold 148 = .ok (.iload 6, 2) := by decide +kernel
theorem d_M_wayTold_150 : decode b_M_wayTold 150 = .ok (.istore 6, 2) := by decide +kernel
theorem d_M_wayTold_152 : decode b_M_wayTold 152 = .ok (.iinc 7 1, 3) := by decide +kernel
theorem d_M_wayTold_155 : decode b_M_wayTold 155 = .ok (.goto (-82), 3) := by decide +kernel
theorem d_M_wayTold_158 : decode b_M_wayTold 158 = .ok (.iconst 0, 1) := by decide +kernel
theorem d_M_wayTold_159 : decode b_M_wayTold 159 = .ok (.istore 7, 2) := by decide +kernel
theorem d_M_wayTold_161 : decode b_M_wayTold 161 = .ok (.iconst 0, 1) := by decide +kernel
theorem d_M_wayTold_162 : decode b_M_wayTold 162 = .ok (.istore 8, 2) := by decide +kernel
theorem d_M_wayTold_164 : decode b_M_wayTold 164 = .ok (.iload 8, 2) := by decide +kernel
theorem d_M_wayTold_166 : decode b_M_wayTold 166 = .ok (.iload 6, 2) := by decide +kernel
theorem d_M_wayTold_168 : decode b_M_wayTold 168 = .ok (.if_icmp .ge 48, 3) := by decide +kernel
theorem d_M_wayTold_171 : decode b_M_wayTold 171 = .ok (.iload 7, 2) := by decide +kernel
theorem d_M_wayTold_173 : decode b_M_wayTold 173 = .ok (.aload_n 0, 1) := by decide +kernel
theorem d_M_wayTold_174 : decode b_M_wayTold 174 = .ok (.aload_n 0, 1) := by decide +kernel
theorem d_M_wayTold_175 : decode b_M_wayTold 175 = .ok (.getfield 38, 3) := by decide +kernel
theorem d_M_wayTold_178 : decode b_M_wayTold 178 = .ok (.iload_n 3, 1) := by decide +kernel
theorem d_M_wayTold_179 : decode b_M_wayTold 179 = .ok (.iload 8, 2) := by decide +kernel
theorem d_M_wayTold_181 : decode b_M_wayTold 181 = .ok (.iadd, 1) := by decide +kernel
theorem d_M_wayTold_182 : decode b_M_wayTold 182 = .ok (.iaload, 1) := by decide +kernel
theorem d_M_wayTold_183 : decode b_M_wayTold 183 = .ok (.invokevirtual 239, 3) := by decide +kernel
theorem d_M_wayTold_186 : decode b_M_wayTold 186 = .ok (.aload_n 0, 1) := by decide +kernel
theorem d_M_wayTold_187 : decode b_M_wayTold 187 = .ok (.aload_n 0, 1) := by decide +kernel
theorem d_M_wayTold_188 : decode b_M_wayTold 188 = .ok (.getfield 38, 3) := by decide +kernel
theorem d_M_wayTold_191 : decode b_M_wayTold 191 = .ok (.iload_n 3, 1) := by decide +kernel
theorem d_M_wayTold_192 : decode b_M_wayTold 192 = .ok (.iload 6, 2) := by decide +kernel
theorem d_M_wayTold_194 : decode b_M_wayTold 194 = .ok (.iadd, 1) := by decide +kernel
theorem d_M_wayTold_195 : decode b_M_wayTold 195 = .ok (.iaload, 1) := by decide +kernel
theorem d_M_wayTold_196 : decode b_M_wayTold 196 = .ok (.invokevirtual 239, 3) := by decide +kernel
theorem d_M_wayTold_199 : decode b_M_wayTold 199 = .ok (.if_icmp .le 7, 3) := by decide +kernel
theorem d_M_wayTold_202 : decode b_M_wayTold 202 = .ok (.iconst 1, 1) := by decide +kernel
theorem d_M_wayTold_203 : decode b_M_wayTold 203 = .ok (.goto 4, 3) := by decide +kernel
theorem d_M_wayTold_206 : decode b_M_wayTold 206 = .ok (.iconst 0, 1) := by decide +kernel
theorem d_M_wayTold_207 : decode b_M_wayTold 207 = .ok (.iadd, 1) := by decide +kernel
theorem d_M_wayTold_208 : decode b_M_wayTold 208 = .ok (.istore 7, 2) := by decide +kernel
theorem d_M_wayTold_210 : decode b_M_wayTold 210 = .ok (.iinc 8 1, 3) := by decide +kernel
theorem d_M_wayTold_213 : decode b_M_wayTold 213 = .ok (.goto (-49), 3) := by decide +kernel
theorem d_M_wayTold_216 : decode b_M_wayTold 216 = .ok (.iload 4, 2) := by decide +kernel
theorem d_M_wayTold_218 : decode b_M_wayTold 218 = .ok (.iload 7, 2) := by decide +kernel
theorem d_M_wayTold_220 : decode b_M_wayTold 220 = .ok (.iload_n 2, 1) := by decide +kernel
theorem d_M_wayTold_221 : decode b_M_wayTold 221 = .ok (.iconst 1, 1) := by decide +kernel
theorem d_M_wayTold_222 : decode b_M_wayTold 222 = .ok (.isub, 1) := by decide +kernel
theorem d_M_wayTold_223 : decode b_M_wayTold 223 = .ok (.iload 5, 2) := by decide +kernel
theorem d_M_wayTold_225 : decode b_M_wayTold 225 = .ok (.isub, 1) := by decide +kernel
theorem d_M_wayTold_226 : decode b_M_wayTold 226 = .ok (.invokestatic 180, 3) := by decide +kernel
theorem d_M_wayTold_229 : decode b_M_wayTold 229 = .ok (.imul, 1) := by decide +kernel
theorem d_M_wayTold_230 : decode b_M_wayTold 230 = .ok (.iadd, 1) := by decide +kernel
theorem d_M_wayTold_231 : decode b_M_wayTold 231 = .ok (.istore 4, 2) := by decide +kernel
theorem d_M_wayTold_233 : decode b_M_wayTold 233 = .ok (.iinc 5 1, 3) := by decide +kernel
theorem d_M_wayTold_236 : decode b_M_wayTold 236 = .ok (.goto (-175), 3) := by decide +kernel
theorem d_M_wayTold_239 : decode b_M_wayTold 239 = .ok (.iload 4, 2) := by decide +kernel
theorem d_M_wayTold_241 : decode b_M_wayTold 241 = .ok (.ireturn, 1) := by decide +kernel
theorem d_M_numberOf_0 : decode b_M_numberOf 0 = .ok (.aload_n 0, 1) := by decide +kernel
theorem d_M_numberOf_1 : decode b_M_numberOf 1 = .ok (.invokevirtual 236, 3) := by decide +kernel
theorem d_M_numberOf_4 : decode b_M_numberOf 4 = .ok (.aload_n 0, 1) := by decide +kernel
theorem d_M_numberOf_5 : decode b_M_numberOf 5 = .ok (.invokevirtual 96, 3) := by decide +kernel
theorem d_M_numberOf_8 : decode b_M_numberOf 8 = .ok (.iand, 1) := by decide +kernel
theorem d_M_numberOf_9 : decode b_M_numberOf 9 = .ok (.ifCond .eq 5, 3) := by decide +kernel
theorem d_M_numberOf_12 : decode b_M_numberOf 12 = .ok (.iconst (-1), 1) := by decide +kernel
theorem d_M_numberOf_13 : decode b_M_numberOf 13 = .ok (.ireturn, 1) := by decide +kernel
theorem d_M_numberOf_14 : decode b_M_numberOf 14 = .ok (.aload_n 0, 1) := by decide +kernel
theorem d_M_numberOf_15 : decode b_M_numberOf 15 = .ok (.invokevirtual 171, 3) := by decide +kernel
theorem d_M_numberOf_18 : decode b_M_numberOf 18 = .ok (.iconst 0, 1) := by decide +kernel
theorem d_M_numberOf_19 : decode b_M_numberOf 19 = .ok (.istore_n 1, 1) := by decide +kernel
theorem d_M_numberOf_20 : decode b_M_numberOf 20 = .ok (.iconst 0, 1) := by decide +kernel
theorem d_M_numberOf_21 : decode b_M_numberOf 21 = .ok (.istore_n 2, 1) := by decide +kernel
theorem d_M_numberOf_22 : decode b_M_numberOf 22 = .ok (.iload_n 2, 1) := by decide +kernel
theorem d_M_numberOf_23 : decode b_M_numberOf 23 = .ok (.aload_n 0, 1) := by decide +kernel
theorem d_M_numberOf_24 : decode b_M_numberOf 24 = .ok (.getfield 156, 3) := by decide +kernel
theorem d_M_numberOf_27 : decode b_M_numberOf 27 = .ok (.if_icmp .ge 23, 3) := by decide +kernel
theorem d_M_numberOf_30 : decode b_M_numberOf 30 = .ok (.iload_n 1, 1) := by decide +kernel
theorem d_M_numberOf_31 : decode b_M_numberOf 31 = .ok (.aload_n 0, 1) := by decide +kernel
theorem d_M_numberOf_32 : decode b_M_numberOf 32 = .ok (.iload_n 2, 1) := by decide +kernel
theorem d_M_numberOf_33 : decode b_M_numberOf 33 = .ok (.invokevirtual 183, 3) := by decide +kernel
theorem d_M_numberOf_36 : decode b_M_numberOf 36 = .ok (.imul, 1) := by decide +kernel
theorem d_M_numberOf_37 : decode b_M_numberOf 37 = .ok (.aload_n 0, 1) := by decide +kernel
theorem d_M_numberOf_38 : decode b_M_numberOf 38 = .ok (.iload_n 2, 1) := by decide +kernel
theorem d_M_numberOf_39 : decode b_M_numberOf 39 = .ok (.invokevirtual 242, 3) := by decide +kernel
theorem d_M_numberOf_42 : decode b_M_numberOf 42 = .ok (.iadd, 1) := by decide +kernel
theorem d_M_numberOf_43 : decode b_M_numberOf 43 = .ok (.istore_n 1, 1) := by decide +kernel
theorem d_M_numberOf_44 : decode b_M_numberOf 44 = .ok (.iinc 2 1, 3) := by decide +kernel
theorem d_M_numberOf_47 : decode b_M_numberOf 47 = .ok (.goto (-25), 3) := by decide +kernel
theorem d_M_numberOf_50 : decode b_M_numberOf 50 = .ok (.iload_n 1, 1) := by decide +kernel
theorem d_M_numberOf_51 : decode b_M_numberOf 51 = .ok (.ireturn, 1) := by decide +kernel
theorem d_M_number_0 : decode b_M_number 0 = .ok (.aload_n 0, 1) := by decide +kernel
theorem d_M_number_1 : decode b_M_number 1 = .ok (.invokevirtual 232, 3) := by decide +kernel
theorem d_M_number_4 : decode b_M_number 4 = .ok (.ifCond .eq 10, 3) := by decide +kernel
theorem d_M_number_7 : decode b_M_number 7 = .ok (.aload_n 0, 1) := by decide +kernel
theorem d_M_number_8 : decode b_M_number 8 = .ok (.invokevirtual 245, 3) := by decide +kernel
theorem d_M_number_11 : decode b_M_number 11 = .ok (.goto 5, 3) := by decide +kernel
theorem d_M_number_14 : decode b_M_number 14 = .ok (.bipush (-3), 2) := by decide +kernel
theorem d_M_number_16 : decode b_M_number 16 = .ok (.ireturn, 1) := by decide +kernel
theorem d_M_sheet_0 : decode b_M_sheet 0 = .ok (.iload_n 1, 1) := by decide +kernel
theorem d_M_sheet_1 : decode b_M_sheet 1 = .ok (.invokestatic 103, 3) := by decide +kernel
theorem d_M_sheet_4 : decode b_M_sheet 4 = .ok (.ifCond .eq 18, 3) := by decide +kernel
theorem d_M_sheet_7 : decode b_M_sheet 7 = .ok (.iload_n 2, 1) := by decide +kernel
theorem d_M_sheet_8 : decode b_M_sheet 8 = .ok (.iconst 0, 1) := by decide +kernel
theorem d_M_sheet_9 : decode b_M_sheet 9 = .ok (.iconst 2, 1) := by decide +kernel
theorem d_M_sheet_10 : decode b_M_sheet 10 = .ok (.invokestatic 85, 3) := by decide +kernel
theorem d_M_sheet_13 : decode b_M_sheet 13 = .ok (.ifCond .eq 9, 3) := by decide +kernel
theorem d_M_sheet_16 : decode b_M_sheet 16 = .ok (.iload_n 3, 1) := by decide +kernel
theorem d_M_sheet_17 : decode b_M_sheet 17 = .ok (.bipush 60, 2) := by decide +kernel
theorem d_M_sheet_19 : decode b_M_sheet 19 = .ok (.if_icmp .le 6, 3) := by decide +kernel
theorem d_M_sheet_22 : decode b_M_sheet 22 = .ok (.bipush (-2), 2) := by decide +kernel
theorem d_M_sheet_24 : decode b_M_sheet 24 = .ok (.ireturn, 1) := by decide +kernel
theorem d_M_sheet_25 : decode b_M_sheet 25 = .ok (.iload_n 3, 1) := by decide +kernel
theorem d_M_sheet_26 : decode b_M_sheet 26 = .ok (.ifCond .ge 9, 3) := by decide +kernel
theorem d_M_sheet_29 : decode b_M_sheet 29 = .ok (.aload_n 0, 1) := by decide +kernel
theorem d_M_sheet_30 : decode b_M_sheet 30 = .ok (.iconst 5, 1) := by decide +kernel
theorem d_M_sheet_31 : decode b_M_sheet 31 = .ok (.invokevirtual 107, 3) := by decide +kernel
theorem d_M_sheet_34 : decode b_M_sheet 34 = .ok (.ireturn, 1) := by decide +kernel
theorem d_M_sheet_35 : decode b_M_sheet 35 = .ok (.aload_n 0, 1) := by decide +kernel
theorem d_M_sheet_36 : decode b_M_sheet 36 = .ok (.getfield 65, 3) := by decide +kernel
theorem d_M_sheet_39 : decode b_M_sheet 39 = .ok (.iload_n 1, 1) := by decide +kernel
theorem d_M_sheet_40 : decode b_M_sheet 40 = .ok (.iconst 1, 1) := by decide +kernel
theorem d_M_sheet_41 : decode b_M_sheet 41 = .ok (.bastore, 1) := by decide +kernel
theorem d_M_sheet_42 : decode b_M_sheet 42 = .ok (.aload_n 0, 1) := by decide +kernel
theorem d_M_sheet_43 : decode b_M_sheet 43 = .ok (.getfield 69, 3) := by decide +kernel
theorem d_M_sheet_46 : decode b_M_sheet 46 = .ok (.iload_n 1, 1) := by decide +kernel
theorem d_M_sheet_47 : decode b_M_sheet 47 = .ok (.iload_n 2, 1) := by decide +kernel
theorem d_M_sheet_48 : decode b_M_sheet 48 = .ok (.iastore, 1) := by decide +kernel
theorem d_M_sheet_49 : decode b_M_sheet 49 = .ok (.aload_n 0, 1) := by decide +kernel
theorem d_M_sheet_50 : decode b_M_sheet 50 = .ok (.getfield 72, 3) := by decide +kernel
theorem d_M_sheet_53 : decode b_M_sheet 53 = .ok (.iload_n 1, 1) := by decide +kernel
theorem d_M_sheet_54 : decode b_M_sheet 54 = .ok (.iload_n 3, 1) := by decide +kernel
theorem d_M_sheet_55 : decode b_M_sheet 55 = .ok (.iastore, 1) := by decide +kernel
theorem d_M_sheet_56 : decode b_M_sheet 56 = .ok (.iconst 0, 1) := by decide +kernel
theorem d_M_sheet_57 : decode b_M_sheet 57 = .ok (.istore 4, 2) := by decide +kernel
theorem d_M_sheet_59 : decode b_M_sheet 59 = .ok (.iload 4, 2) := by decide +kernel
theorem d_M_sheet_61 : decode b_M_sheet 61 = .ok (.bipush 60, 2) := by decide +kernel
theorem d_M_sheet_63 : decode b_M_sheet 63 = .ok (.if_icmp .ge 22, 3) := by decide +kernel
theorem d_M_sheet_66 : decode b_M_sheet 66 = .ok (.aload_n 0, 1) := by decide +kernel
theorem d_M_sheet_67 : decode b_M_sheet 67 = .ok (.getfield 75, 3) := by decide +kernel
theorem d_M_sheet_70 : decode b_M_sheet 70 = .ok (.bipush 60, 2) := by decide +kernel
theorem d_M_sheet_72 : decode b_M_sheet 72 = .ok (.iload_n 1, 1) := by decide +kernel
theorem d_M_sheet_73 : decode b_M_sheet 73 = .ok (.imul, 1) := by decide +kernel
theorem d_M_sheet_74 : decode b_M_sheet 74 = .ok (.iload 4, 2) := by decide +kernel
theorem d_M_sheet_76 : decode b_M_sheet 76 = .ok (.iadd, 1) := by decide +kernel
theorem d_M_sheet_77 : decode b_M_sheet 77 = .ok (.iconst 0, 1) := by decide +kernel
theorem d_M_sheet_78 : decode b_M_sheet 78 = .ok (.iastore, 1) := by decide +kernel
theorem d_M_sheet_79 : decode b_M_sheet 79 = .ok (.iinc 4 1, 3) := by decide +kernel
theorem d_M_sheet_82 : decode b_M_sheet 82 = .ok (.goto (-23), 3) := by decide +kernel
theorem d_M_sheet_85 : decode b_M_sheet 85 = .ok (.iload_n 3, 1) := by decide +kernel
theorem d_M_sheet_86 : decode b_M_sheet 86 = .ok (.ireturn, 1) := by decide +kernel
theorem d_M_lose_0 : decode b_M_lose 0 = .ok (.iload_n 1, 1) := by decide +kernel
theorem d_M_lose_1 : decode b_M_lose 1 = .ok (.invokestatic 103, 3) := by decide +kernel
theorem d_M_lose_4 : decode b_M_lose 4 = .ok (.ifCond .ne 6, 3) := by decide +kernel
theorem d_M_lose_7 : decode b_M_lose 7 = .ok (.bipush (-2), 2) := by decide +kernel
theorem d_M_lose_9 : decode b_M_lose 9 = .ok (.ireturn, 1) := by decide +kernel
theorem d_M_lose_10 : decode b_M_lose 10 = .ok (.aload_n 0, 1) := by decide +kernel
theorem d_M_lose_11 : decode b_M_lose 11 = .ok (.getfield 65, 3) := by decide +kernel
theorem d_M_lose_14 : decode b_M_lose 14 = .ok (.iload_n 1, 1) := by decide +kernel
theorem d_M_lose_15 : decode b_M_lose 15 = .ok (.baload, 1) := by decide +kernel
theorem d_M_lose_16 : decode b_M_lose 16 = .ok (.ifCond .ne 9, 3) := by decide +kernel
theorem d_M_lose_19 : decode b_M_lose 19 = .ok (.aload_n 0, 1) := by decide +kernel
theorem d_M_lose_20 : decode b_M_lose 20 = .ok (.iconst 1, 1) := by decide +kernel
theorem d_M_lose_21 : decode b_M_lose 21 = .ok (.invokevirtual 107, 3) := by decide +kernel
theorem d_M_lose_24 : decode b_M_lose 24 = .ok (.ireturn, 1) := by decide +kernel
theorem d_M_lose_25 : decode b_M_lose 25 = .ok (.aload_n 0, 1) := by decide +kernel
theorem d_M_lose_26 : decode b_M_lose 26 = .ok (.getfield 65, 3) := by decide +kernel
theorem d_M_lose_29 : decode b_M_lose 29 = .ok (.iload_n 1, 1) := by decide +kernel
theorem d_M_lose_30 : decode b_M_lose 30 = .ok (.iconst 0, 1) := by decide +kernel
theorem d_M_lose_31 : decode b_M_lose 31 = .ok (.bastore, 1) := by decide +kernel
theorem d_M_lose_32 : decode b_M_lose 32 = .ok (.aload_n 0, 1) := by decide +kernel
theorem d_M_lose_33 : decode b_M_lose 33 = .ok (.getfield 72, 3) := by decide +kernel
theorem d_M_lose_36 : decode b_M_lose 36 = .ok (.iload_n 1, 1) := by decide +kernel
theorem d_M_lose_37 : decode b_M_lose 37 = .ok (.iaload, 1) := by decide +kernel
theorem d_M_lose_38 : decode b_M_lose 38 = .ok (.ireturn, 1) := by decide +kernel
theorem d_M_lacks_0 : decode b_M_lacks 0 = .ok (.aload_n 0, 1) := by decide +kernel
theorem d_M_lacks_1 : decode b_M_lacks 1 = .ok (.getfield 65, 3) := by decide +kernel
theorem d_M_lacks_4 : decode b_M_lacks 4 = .ok (.iload_n 1, 1) := by decide +kernel
theorem d_M_lacks_5 : decode b_M_lacks 5 = .ok (.baload, 1) := by decide +kernel
theorem d_M_lacks_6 : decode b_M_lacks 6 = .ok (.ifCond .ne 7, 3) := by decide +kernel
theorem d_M_lacks_9 : decode b_M_lacks 9 = .ok (.iconst 1, 1) := by decide +kernel
theorem d_M_lacks_10 : decode b_M_lacks 10 = .ok (.goto 38, 3) := by decide +kernel
theorem d_M_lacks_13 : decode b_M_lacks 13 = .ok (.aload_n 0, 1) := by decide +kernel
theorem d_M_lacks_14 : decode b_M_lacks 14 = .ok (.getfield 69, 3) := by decide +kernel
theorem d_M_lacks_17 : decode b_M_lacks 17 = .ok (.iload_n 1, 1) := by decide +kernel
theorem d_M_lacks_18 : decode b_M_lacks 18 = .ok (.iaload, 1) := by decide +kernel
theorem d_M_lacks_19 : decode b_M_lacks 19 = .ok (.iload_n 2, 1) := by decide +kernel
theorem d_M_lacks_20 : decode b_M_lacks 20 = .ok (.if_icmp .eq 7, 3) := by decide +kernel
theorem d_M_lacks_23 : decode b_M_lacks 23 = .ok (.iconst 3, 1) := by decide +kernel
theorem d_M_lacks_24 : decode b_M_lacks 24 = .ok (.goto 24, 3) := by decide +kernel
theorem d_M_lacks_27 : decode b_M_lacks 27 = .ok (.iload_n 3, 1) := by decide +kernel
theorem d_M_lacks_28 : decode b_M_lacks 28 = .ok (.iconst 0, 1) := by decide +kernel
theorem d_M_lacks_29 : decode b_M_lacks 29 = .ok (.aload_n 0, 1) := by decide +kernel
theorem d_M_lacks_30 : decode b_M_lacks 30 = .ok (.getfield 72, 3) := by decide +kernel
theorem d_M_lacks_33 : decode b_M_lacks 33 = .ok (.iload_n 1, 1) := by decide +kernel
theorem d_M_lacks_34 : decode b_M_lacks 34 = .ok (.iaload, 1) := by decide +kernel
theorem d_M_lacks_35 : decode b_M_lacks 35 = .ok (.iconst 1, 1) := by decide +kernel
theorem d_M_lacks_36 : decode b_M_lacks 36 = .ok (.isub, 1) := by decide +kernel
theorem d_M_lacks_37 : decode b_M_lacks 37 = .ok (.invokestatic 85, 3) := by decide +kernel
theorem d_M_lacks_40 : decode b_M_lacks 40 = .ok (.ifCond .eq 7, 3) := by decide +kernel
theorem d_M_lacks_43 : decode b_M_lacks 43 = .ok (.iconst 0, 1) := by decide +kernel
theorem d_M_lacks_44 : decode b_M_lacks 44 = .ok (.goto 4, 3) := by decide +kernel
theorem d_M_lacks_47 : decode b_M_lacks 47 = .ok (.iconst 2, 1) := by decide +kernel
theorem d_M_lacks_48 : decode b_M_lacks 48 = .ok (.ireturn, 1) := by decide +kernel
theorem d_M_keep_0 : decode b_M_keep 0 = .ok (.aload_n 0, 1) := by decide +kernel
theorem d_M_keep_1 : decode b_M_keep 1 = .ok (.getfield 75, 3) := by decide +kernel
theorem d_M_keep_4 : decode b_M_keep 4 = .ok (.bipush 60, 2) := by decide +kernel
theorem d_M_keep_6 : decode b_M_keep 6 = .ok (.iload_n 1, 1) := by decide +kernel
theorem d_M_keep_7 : decode b_M_keep 7 = .ok (.imul, 1) := by decide +kernel
theorem d_M_keep_8 : decode b_M_keep 8 = .ok (.iload_n 2, 1) := by decide +kernel
theorem d_M_keep_9 : decode b_M_keep 9 = .ok (.iadd, 1) := by decide +kernel
theorem d_M_keep_10 : decode b_M_keep 10 = .ok (.aload_n 0, 1) := by decide +kernel
theorem d_M_keep_11 : decode b_M_keep 11 = .ok (.getfield 69, 3) := by decide +kernel
theorem d_M_keep_14 : decode b_M_keep 14 = .ok (.iload_n 1, 1) := by decide +kernel
theorem d_M_keep_15 : decode b_M_keep 15 = .ok (.iaload, 1) := by decide +kernel
theorem d_M_keep_16 : decode b_M_keep 16 = .ok (.ifCond .ne 8, 3) := by decide +kernel
theorem d_M_keep_19 : decode b_M_keep 19 = .ok (.iload_n 3, 1) := by decide +kernel
theorem d_M_keep_20 : decode b_M_keep 20 = .ok (.i2b, 1) := by decide +kernel
theorem d_M_keep_21 : decode b_M_keep 21 = .ok (.goto 19, 3) := by decide +kernel
theorem d_M_keep_24 : decode b_M_keep 24 = .ok (.aload_n 0, 1) := by decide +kernel
theorem d_M_keep_25 : decode b_M_keep 25 = .ok (.getfield 69, 3) := by decide +kernel
theorem d_M_keep_28 : decode b_M_keep 28 = .ok (.iload_n 1, 1) := by decide +kernel
theorem d_M_keep_29 : decode b_M_keep 29 = .ok (.iaload, 1) := by decide +kernel
theorem d_M_keep_30 : decode b_M_keep 30 = .ok (.iconst 1, 1) := by decide +kernel
theorem d_M_keep_31 : decode b_M_keep 31 = .ok (.if_icmp .ne 8, 3) := by decide +kernel
theorem d_M_keep_34 : decode b_M_keep 34 = .ok (.iload_n 3, 1) := by decide +kernel
theorem d_M_keep_35 : decode b_M_keep 35 = .ok (.i2s, 1) := by decide +kernel
theorem d_M_keep_36 : decode b_M_keep 36 = .ok (.goto 4, 3) := by decide +kernel
theorem d_M_keep_39 : decode b_M_keep 39 = .ok (.iload_n 3, 1) := by decide +kernel
theorem d_M_keep_40 : decode b_M_keep 40 = .ok (.iastore, 1) := by decide +kernel
theorem d_M_keep_41 : decode b_M_keep 41 = .ok (.return_, 1) := by decide +kernel
theorem d_M_put_0 : decode b_M_put 0 = .ok (.iload_n 1, 1) := by decide +kernel
theorem d_M_put_1 : decode b_M_put 1 = .ok (.invokestatic 103, 3) := by decide +kernel
theorem d_M_put_4 : decode b_M_put 4 = .ok (.ifCond .eq 12, 3) := by decide +kernel
theorem d_M_put_7 : decode b_M_put 7 = .ok (.iload_n 2, 1) := by decide +kernel
theorem d_M_put_8 : decode b_M_put 8 = .ok (.iconst 0, 1) := by decide +kernel
theorem d_M_put_9 : decode b_M_put 9 = .ok (.iconst 2, 1) := by decide +kernel
theorem d_M_put_10 : decode b_M_put 10 = .ok (.invokestatic 85, 3) := by decide +kernel
theorem d_M_put_13 : decode b_M_put 13 = .ok (.ifCond .ne 6, 3) := by decide +kernel
theorem d_M_put_16 : decode b_M_put 16 = .ok (.bipush (-2), 2) := by decide +kernel
theorem d_M_put_18 : decode b_M_put 18 = .ok (.ireturn, 1) := by decide +kernel
theorem d_M_put_19 : decode b_M_put 19 = .ok (.aload_n 0, 1) := by decide +kernel
theorem d_M_put_20 : decode b_M_put 20 = .ok (.iload_n 1, 1) := by decide +kernel
theorem d_M_put_21 : decode b_M_put 21 = .ok (.iload_n 2, 1) := by decide +kernel
theorem d_M_put_22 : decode b_M_put 22 = .ok (.iload_n 3, 1) := by decide +kernel
theorem d_M_put_23 : decode b_M_put 23 = .ok (.invokevirtual 251, 3) := by decide +kernel
theorem d_M_put_26 : decode b_M_put 26 = .ok (.istore 5, 2) := by decide +kernel
theorem d_M_put_28 : decode b_M_put 28 = .ok (.iload 5, 2) := by decide +kernel
theorem d_M_put_30 : decode b_M_put 30 = .ok (.ifCond .le 10, 3) := by decide +kernel
theorem d_M_put_33 : decode b_M_put 33 = .ok (.aload_n 0, 1) := by decide +kernel
theorem d_M_put_34 : decode b_M_put 34 = .ok (.iload 5, 2) := by decide +kernel
theorem d_M_put_36 : decode b_M_put 36 = .ok (.invokevirtual 107, 3) := by decide +kernel
theorem d_M_put_39 : decode b_M_put 39 = .ok (.ireturn, 1) := by decide +kernel
theorem d_M_put_40 : decode b_M_put 40 = .ok (.aload_n 0, 1) := by decide +kernel
theorem d_M_put_41 : decode b_M_put 41 = .ok (.iload_n 1, 1) := by decide +kernel
theorem d_M_put_42 : decode b_M_put 42 = .ok (.iload_n 3, 1) := by decide +kernel
theorem d_M_put_43 : decode b_M_put 43 = .ok (.iload 4, 2) := by decide +kernel
theorem d_M_put_45 : decode b_M_put 45 = .ok (.invokevirtual 254, 3) := by decide +kernel
theorem d_M_put_48 : decode b_M_put 48 = .ok (.iconst 1, 1) := by decide +kernel
theorem d_M_put_49 : decode b_M_put 49 = .ok (.ireturn, 1) := by decide +kernel
theorem d_M_get_0 : decode b_M_get 0 = .ok (.iload_n 1, 1) := by decide +kernel
theorem d_M_get_1 : decode b_M_get 1 = .ok (.invokestatic 103, 3) := by decide +kernel
theorem d_M_get_4 : decode b_M_get 4 = .ok (.ifCond .eq 12, 3) := by decide +kernel
theorem d_M_get_7 : decode b_M_get 7 = .ok (.iload_n 2, 1) := by decide +kernel
theorem d_M_get_8 : decode b_M_get 8 = .ok (.iconst 0, 1) := by decide +kernel
theorem d_M_get_9 : decode b_M_get 9 = .ok (.iconst 2, 1) := by decide +kernel
theorem d_M_get_10 : decode b_M_get 10 = .ok (.invokestatic 85, 3) := by decide +kernel
theorem d_M_get_13 : decode b_M_get 13 = .ok (.ifCond .ne 7, 3) := by decide +kernel
theorem d_M_get_16 : decode b_M_get 16 = .ok (.ldc_w 258, 3) := by decide +kernel
theorem d_M_get_19 : decode b_M_get 19 = .ok (.ireturn, 1) := by decide +kernel
theorem d_M_get_20 : decode b_M_get 20 = .ok (.aload_n 0, 1) := by decide +kernel
theorem d_M_get_21 : decode b_M_get 21 = .ok (.iload_n 1, 1) := by decide +kernel
theorem d_M_get_22 : decode b_M_get 22 = .ok (.iload_n 2, 1) := by decide +kernel
theorem d_M_get_23 : decode b_M_get 23 = .ok (.iload_n 3, 1) := by decide +kernel
theorem d_M_get_24 : decode b_M_get 24 = .ok (.invokevirtual 251, 3) := by decide +kernel
theorem d_M_get_27 : decode b_M_get 27 = .ok (.istore 4, 2) := by decide +kernel
theorem d_M_get_29 : decode b_M_get 29 = .ok (.iload 4, 2) := by decide +kernel
theorem d_M_get_31 : decode b_M_get 31 = .ok (.ifCond .le 13, 3) := by decide +kernel
theorem d_M_get_34 : decode b_M_get 34 = .ok (.aload_n 0, 1) := by decide +kernel
theorem d_M_get_35 : decode b_M_get 35 = .ok (.iload 4, 2) := by decide +kernel
theorem d_M_get_37 : decode b_M_get 37 = .ok (.putfield 248, 3) := by decide +kernel
theorem d_M_get_40 : decode b_M_get 40 = .ok (.ldc_w 258, 3) := by decide +kernel
theorem d_M_get_43 : decode b_M_get 43 = .ok (.ireturn, 1) := by decide +kernel
theorem d_M_get_44 : decode b_M_get 44 = .ok (.aload_n 0, 1) := by decide +kernel
theorem d_M_get_45 : decode b_M_get 45 = .ok (.getfield 75, 3) := by decide +kernel
theorem d_M_get_48 : decode b_M_get 48 = .ok (.bipush 60, 2) := by decide +kernel
theorem d_M_get_50 : decode b_M_get 50 = .ok (.iload_n 1, 1) := by decide +kernel
theorem d_M_get_51 : decode b_M_get 51 = .ok (.imul, 1) := by decide +kernel
theorem d_M_get_52 : decode b_M_get 52 = .ok (.iload_n 3, 1) := by decide +kernel
theorem d_M_get_53 : decode b_M_get 53 = .ok (.iadd, 1) := by decide +kernel
theorem d_M_get_54 : decode b_M_get 54 = .ok (.iaload, 1) := by decide +kernel
theorem d_M_get_55 : decode b_M_get 55 = .ok (.ireturn, 1) := by decide +kernel
theorem d_M_copy_0 : decode b_M_copy 0 = .ok (.iload_n 1, 1) := by decide +kernel
theorem d_M_copy_1 : decode b_M_copy 1 = .ok (.invokestatic 103, 3) := by decide +kernel
theorem d_M_copy_4 : decode b_M_copy 4 = .ok (.ifCond .eq 10, 3) := by decide +kernel
theorem d_M_copy_7 : decode b_M_copy 7 = .ok (.iload_n 3, 1) := by decide +kernel
theorem d_M_copy_8 : decode b_M_copy 8 = .ok (.invokestatic 103, 3) := by decide +kernel
theorem d_M_copy_11 : decode b_M_copy 11 = .ok (.ifCond .ne 6, 3) := by decide +kernel
theorem d_M_copy_14 : decode b_M_copy 14 = .ok (.bipush (-2), 2) := by decide +kernel
theorem d_M_copy_16 : decode b_M_copy 16 = .ok (.ireturn, 1) := by decide +kernel
theorem d_M_copy_17 : decode b_M_copy 17 = .ok (.aload_n 0, 1) := by decide +kernel
theorem d_M_copy_18 : decode b_M_copy 18 = .ok (.getfield 65, 3) := by decide +kernel
theorem d_M_copy_21 : decode b_M_copy 21 = .ok (.iload_n 1, 1) := by decide +kernel
theorem d_M_copy_22 : decode b_M_copy 22 = .ok (.baload, 1) := by decide +kernel
theorem d_M_copy_23 : decode b_M_copy 23 = .ok (.ifCond .eq 12, 3) := by decide +kernel
theorem d_M_copy_26 : decode b_M_copy 26 = .ok (.aload_n 0, 1) := by decide +kernel
theorem d_M_copy_27 : decode b_M_copy 27 = .ok (.getfield 65, 3) := by decide +kernel
theorem d_M_copy_30 : decode b_M_copy 30 = .ok (.iload_n 3, 1) := by decide +kernel
theorem d_M_copy_31 : decode b_M_copy 31 = .ok (.baload, 1) := by decide +kernel
theorem d_M_copy_32 : decode b_M_copy 32 = .ok (.ifCond .ne 9, 3) := by decide +kernel
theorem d_M_copy_35 : decode b_M_copy 35 = .ok (.aload_n 0, 1) := by decide +kernel
theorem d_M_copy_36 : decode b_M_copy 36 = .ok (.iconst 1, 1) := by decide +kernel
theorem d_M_copy_37 : decode b_M_copy 37 = .ok (.invokevirtual 107, 3) := by decide +kernel
theorem d_M_copy_40 : decode b_M_copy 40 = .ok (.ireturn, 1) := by decide +kernel
theorem d_M_copy_41 : decode b_M_copy 41 = .ok (.aload_n 0, 1) := by decide +kernel
theorem d_M_copy_42 : decode b_M_copy 42 = .ok (.getfield 69, 3) := by decide +kernel
theorem d_M_copy_45 : decode b_M_copy 45 = .ok (.iload_n 1, 1) := by decide +kernel
theorem d_M_copy_46 : decode b_M_copy 46 = .ok (.iaload, 1) := by decide +kernel
theorem d_M_copy_47 : decode b_M_copy 47 = .ok (.aload_n 0, 1) := by decide +kernel
theorem d_M_copy_48 : decode b_M_copy 48 = .ok (.getfield 69, 3) := by decide +kernel
theorem d_M_copy_51 : decode b_M_copy 51 = .ok (.iload_n 3, 1) := by decide +kernel
theorem d_M_copy_52 : decode b_M_copy 52 = .ok (.iaload, 1) := by decide +kernel
theorem d_M_copy_53 : decode b_M_copy 53 = .ok (.if_icmp .eq 9, 3) := by decide +kernel
theorem d_M_copy_56 : decode b_M_copy 56 = .ok (.aload_n 0, 1) := by decide +kernel
theorem d_M_copy_57 : decode b_M_copy 57 = .ok (.iconst 4, 1) := by decide +kernel
theorem d_M_copy_58 : decode b_M_copy 58 = .ok (.invokevirtual 107, 3) := by decide +kernel
theorem d_M_copy_61 : decode b_M_copy 61 = .ok (.ireturn, 1) := by decide +kernel
theorem d_M_copy_62 : decode b_M_copy 62 = .ok (.iload_n 2, 1) := by decide +kernel
theorem d_M_copy_63 : decode b_M_copy 63 = .ok (.ifCond .lt 48, 3) := by decide +kernel
theorem d_M_copy_66 : decode b_M_copy 66 = .ok (.iload 4, 2) := by decide +kernel
theorem d_M_copy_68 : decode b_M_copy 68 = .ok (.ifCond .lt 43, 3) := by decide +kernel
theorem d_M_copy_71 : decode b_M_copy 71 = .ok (.iload 5, 2) := by decide +kernel
theorem d_M_copy_73 : decode b_M_copy 73 = .ok (.ifCond .lt 38, 3) := by decide +kernel
theorem d_M_copy_76 : decode b_M_copy 76 = .ok (.iload_n 2, 1) := by decide +kernel
theorem d_M_copy_77 : decode b_M_copy 77 = .ok (.i2l, 1) := by decide +kernel
theorem d_M_copy_78 : decode b_M_copy 78 = .ok (.iload 5, 2) := by decide +kernel
theorem d_M_copy_80 : decode b_M_copy 80 = .ok (.i2l, 1) := by decide +kernel
theorem d_M_copy_81 : decode b_M_copy 81 = .ok (.ladd, 1) := by decide +kernel
theorem d_M_copy_82 : decode b_M_copy 82 = .ok (.aload_n 0, 1) := by decide +kernel
theorem d_M_copy_83 : decode b_M_copy 83 = .ok (.getfield 72, 3) := by decide +kernel
theorem d_M_copy_86 : decode b_M_copy 86 = .ok (.iload_n 1, 1) := by decide +kernel
theorem d_M_copy_87 : decode b_M_copy 87 = .ok (.iaload, 1) := by decide +kernel
theorem d_M_copy_88 : decode b_M_copy 88 = .ok (.i2l, 1) := by decide +kernel
theorem d_M_copy_89 : decode b_M_copy 89 = .ok (.lcmp, 1) := by decide +kernel
theorem d_M_copy_90 : decode b_M_copy 90 = .ok (.ifCond .gt 21, 3) := by decide +kernel
theorem d_M_copy_93 : decode b_M_copy 93 = .ok (.iload 4, 2) := by decide +kernel
theorem d_M_copy_95 : decode b_M_copy 95 = .ok (.i2l, 1) := by decide +kernel
theorem d_M_copy_96 : decode b_M_copy 96 = .ok (.iload 5, 2) := by decide +kernel
theorem d_M_copy_98 : decode b_M_copy 98 = .ok (.i2l, 1) := by decide +kernel
theorem d_M_copy_99 : decode b_M_copy 99 = .ok (.ladd, 1) := by decide +kernel
theorem d_M_copy_100 : decode b_M_copy 100 = .ok (.aload_n 0, 1) := by decide +kernel
theorem d_M_copy_101 : decode b_M_copy 101 = .ok (.getfield 72, 3) := by decide +kernel
theorem d_M_copy_104 : decode b_M_copy 104 = .ok (.iload_n 3, 1) := by decide +kernel
theorem d_M_copy_105 : decode b_M_copy 105 = .ok (.iaload, 1) := by decide +kernel
theorem d_M_copy_106 : decode b_M_copy 106 = .ok (.i2l, 1) := by decide +kernel
theorem d_M_copy_107 : decode b_M_copy 107 = .ok (.lcmp, 1) := by decide +kernel
theorem d_M_copy_108 : decode b_M_copy 108 = .ok (.ifCond .le 9, 3) := by decide +kernel
theorem d_M_copy_111 : decode b_M_copy 111 = .ok (.aload_n 0, 1) := by decide +kernel
theorem d_M_copy_112 : decode b_M_copy 112 = .ok (.iconst 2, 1) := by decide +kernel
theorem d_M_copy_113 : decode b_M_copy 113 = .ok (.invokevirtual 107, 3) := by decide +kernel
theorem d_M_copy_116 : decode b_M_copy 116 = .ok (.ireturn, 1) := by decide +kernel
theorem d_M_copy_117 : decode b_M_copy 117 = .ok (.iconst 0, 1) := by decide +kernel
theorem d_M_copy_118 : decode b_M_copy 118 = .ok (.istore 6, 2) := by decide +kernel
theorem d_M_copy_120 : decode b_M_copy 120 = .ok (.iload 6, 2) := by decide +kernel
theorem d_M_copy_122 : decode b_M_copy 122 = .ok (.iload 5, 2) := by decide +kernel
theorem d_M_copy_124 : decode b_M_copy 124 = .ok (.if_icmp .ge 30, 3) := by decide +kernel
theorem d_M_copy_127 : decode b_M_copy 127 = .ok (.aload_n 0, 1) := by decide +kernel
theorem d_M_copy_128 : decode b_M_copy 128 = .ok (.getfield 78, 3) := by decide +kernel
theorem d_M_copy_131 : decode b_M_copy 131 = .ok (.iload 6, 2) := by decide +kernel
theorem d_M_copy_133 : decode b_M_copy 133 = .ok (.aload_n 0, 1) := by decide +kernel
theorem d_M_copy_134 : decode b_M_copy 134 = .ok (.getfield 75, 3) := by decide +kernel
theorem d_M_copy_137 : decode b_M_copy 137 = .ok (.bipush 60, 2) := by decide +kernel
theorem d_M_copy_139 : decode b_M_copy 139 = .ok (.iload_n 1, 1) := by decide +kernel
theorem d_M_copy_140 : decode b_M_copy 140 = .ok (.imul, 1) := by decide +kernel
theorem d_M_copy_141 : decode b_M_copy 141 = .ok (.iload_n 2, 1) := by decide +kernel
theorem d_M_copy_142 : decode b_M_copy 142 = .ok (.iadd, 1) := by decide +kernel
theorem d_M_copy_143 : decode b_M_copy 143 = .ok (.iload 6, 2) := by decide +kernel
theorem d_M_copy_145 : decode b_M_copy 145 = .ok (.iadd, 1) := by decide +kernel
theorem d_M_copy_146 : decode b_M_copy 146 = .ok (.iaload, 1) := by decide +kernel
theorem d_M_copy_147 : decode b_M_copy 147 = .ok (.iastore, 1) := by decide +kernel
theorem d_M_copy_148 : decode b_M_copy 148 = .ok (.iinc 6 1, 3) := by decide +kernel
theorem d_M_copy_151 : decode b_M_copy 151 = .ok (.goto (-31), 3) := by decide +kernel
theorem d_M_copy_154 : decode b_M_copy 154 = .ok (.iconst 0, 1) := by decide +kernel
theorem d_M_copy_155 : decode b_M_copy 155 = .ok (.istore 6, 2) := by decide +kernel
theorem d_M_copy_157 : decode b_M_copy 157 = .ok (.iload 6, 2) := by decide +kernel
theorem d_M_copy_159 : decode b_M_copy 159 = .ok (.iload 5, 2) := by decide +kernel
theorem d_M_copy_161 : decode b_M_copy 161 = .ok (.if_icmp .ge 31, 3) := by decide +kernel
theorem d_M_copy_164 : decode b_M_copy 164 = .ok (.aload_n 0, 1) := by decide +kernel
theorem d_M_copy_165 : decode b_M_copy 165 = .ok (.getfield 75, 3) := by decide +kernel
theorem d_M_copy_168 : decode b_M_copy 168 = .ok (.bipush 60, 2) := by decide +kernel
theorem d_M_copy_170 : decode b_M_copy 170 = .ok (.iload_n 3, 1) := by decide +kernel
theorem d_M_copy_171 : decode b_M_copy 171 = .ok (.imul, 1) := by decide +kernel
theorem d_M_copy_172 : decode b_M_copy 172 = .ok (.iload 4, 2) := by decide +kernel
theorem d_M_copy_174 : decode b_M_copy 174 = .ok (.iadd, 1) := by decide +kernel
theorem d_M_copy_175 : decode b_M_copy 175 = .ok (.iload 6, 2) := by decide +kernel
theorem d_M_copy_177 : decode b_M_copy 177 = .ok (.iadd, 1) := by decide +kernel
theorem d_M_copy_178 : decode b_M_copy 178 = .ok (.aload_n 0, 1) := by decide +kernel
theorem d_M_copy_179 : decode b_M_copy 179 = .ok (.getfield 78, 3) := by decide +kernel
theorem d_M_copy_182 : decode b_M_copy 182 = .ok (.iload 6, 2) := by decide +kernel
theorem d_M_copy_184 : decode b_M_copy 184 = .ok (.iaload, 1) := by decide +kernel
theorem d_M_copy_185 : decode b_M_copy 185 = .ok (.iastore, 1) := by decide +kernel
theorem d_M_copy_186 : decode b_M_copy 186 = .ok (.iinc 6 1, 3) := by decide +kernel
theorem d_M_copy_189 : decode b_M_copy 189 = .ok (.goto (-32), 3) := by decide +kernel
theorem d_M_copy_192 : decode b_M_copy 192 = .ok (.iconst 1, 1) := by decide +kernel
theorem d_M_copy_193 : decode b_M_copy 193 = .ok (.ireturn, 1) := by decide +kernel
theorem d_M_write_0 : decode b_M_write 0 = .ok (.iload_n 1, 1) := by decide +kernel
theorem d_M_write_1 : decode b_M_write 1 = .ok (.iconst 0, 1) := by decide +kernel
theorem d_M_write_2 : decode b_M_write 2 = .ok (.ldc 195, 2) := by decide +kernel
theorem d_M_write_4 : decode b_M_write 4 = .ok (.invokestatic 85, 3) := by decide +kernel
theorem d_M_write_7 : decode b_M_write 7 = .ok (.ifCond .eq 10, 3) := by decide +kernel
theorem d_M_write_10 : decode b_M_write 10 = .ok (.iload_n 2, 1) := by decide +kernel
theorem d_M_write_11 : decode b_M_write 11 = .ok (.invokestatic 103, 3) := by decide +kernel
theorem d_M_write_14 : decode b_M_write 14 = .ok (.ifCond .ne 6, 3) := by decide +kernel
theorem d_M_write_17 : decode b_M_write 17 = .ok (.bipush (-2), 2) := by decide +kernel
theorem d_M_write_19 : decode b_M_write 19 = .ok (.ireturn, 1) := by decide +kernel
theorem d_M_write_20 : decode b_M_write 20 = .ok (.aload_n 0, 1) := by decide +kernel
theorem d_M_write_21 : decode b_M_write 21 = .ok (.getfield 65, 3) := by decide +kernel
theorem d_M_write_24 : decode b_M_write 24 = .ok (.iload_n 2, 1) := by decide +kernel
theorem d_M_write_25 : decode b_M_write 25 = .ok (.baload, 1) := by decide +kernel
theorem d_M_write_26 : decode b_M_write 26 = .ok (.ifCond .ne 9, 3) := by decide +kernel
theorem d_M_write_29 : decode b_M_write 29 = .ok (.aload_n 0, 1) := by decide +kernel
theorem d_M_write_30 : decode b_M_write 30 = .ok (.iconst 1, 1) := by decide +kernel
theorem d_M_write_31 : decode b_M_write 31 = .ok (.invokevirtual 107, 3) := by decide +kernel
theorem d_M_write_34 : decode b_M_write 34 = .ok (.ireturn, 1) := by decide +kernel
theorem d_M_write_35 : decode b_M_write 35 = .ok (.iload_n 1, 1) := by decide +kernel
theorem d_M_write_36 : decode b_M_write 36 = .ok (.aload_n 0, 1) := by decide +kernel
theorem d_M_write_37 : decode b_M_write 37 = .ok (.invokevirtual 127, 3) := by decide +kernel
theorem d_M_write_40 : decode b_M_write 40 = .ok (.if_icmp .lt 5, 3) := by decide +kernel
theorem d_M_write_43 : decode b_M_write 43 = .ok (.iconst 0, 1) := by decide +kernel
theorem d_M_write_44 : decode b_M_write 44 = .ok (.ireturn, 1) := by decide +kernel
theorem d_M_write_45 : decode b_M_write 45 = .ok (.aload_n 0, 1) := by decide +kernel
theorem d_M_write_46 : decode b_M_write 46 = .ok (.invokevirtual 171, 3) := by decide +kernel
theorem d_M_write_49 : decode b_M_write 49 = .ok (.aload_n 0, 1) := by decide +kernel
theorem d_M_write_50 : decode b_M_write 50 = .ok (.iload_n 1, 1) := by decide +kernel
theorem d_M_write_51 : decode b_M_write 51 = .ok (.invokevirtual 192, 3) := by decide +kernel
theorem d_M_write_54 : decode b_M_write 54 = .ok (.iconst 0, 1) := by decide +kernel
theorem d_M_write_55 : decode b_M_write 55 = .ok (.istore_n 3, 1) := by decide +kernel
theorem d_M_write_56 : decode b_M_write 56 = .ok (.iload_n 3, 1) := by decide +kernel
theorem d_M_write_57 : decode b_M_write 57 = .ok (.aload_n 0, 1) := by decide +kernel
theorem d_M_write_58 : decode b_M_write 58 = .ok (.getfield 72, 3) := by decide +kernel
theorem d_M_write_61 : decode b_M_write 61 = .ok (.iload_n 2, 1) := by decide +kernel
theorem d_M_write_62 : decode b_M_write 62 = .ok (.iaload, 1) := by decide +kernel
theorem d_M_write_63 : decode b_M_write 63 = .ok (.if_icmp .ge 29, 3) := by decide +kernel
theorem d_M_write_66 : decode b_M_write 66 = .ok (.iload_n 3, 1) := by decide +kernel
theorem d_M_write_67 : decode b_M_write 67 = .ok (.aload_n 0, 1) := by decide +kernel
theorem d_M_write_68 : decode b_M_write 68 = .ok (.getfield 7, 3) := by decide +kernel
theorem d_M_write_71 : decode b_M_write 71 = .ok (.if_icmp .ge 21, 3) := by decide +kernel
theorem d_M_write_74 : decode b_M_write 74 = .ok (.aload_n 0, 1) := by decide +kernel
theorem d_M_write_75 : decode b_M_write 75 = .ok (.iload_n 2, 1) := by decide +kernel
theorem d_M_write_76 : decode b_M_write 76 = .ok (.iload_n 3, 1) := by decide +kernel
theorem d_M_write_77 : decode b_M_write 77 = .ok (.aload_n 0, 1) := by decide +kernel
theorem d_M_write_78 : decode b_M_write 78 = .ok (.getfield 53, 3) := by decide +kernel
theorem d_M_write_81 : decode b_M_write 81 = .ok (.iload_n 3, 1) := by decide +kernel
theorem d_M_write_82 : decode b_M_write 82 = .ok (.iaload, 1) := by decide +kernel
theorem d_M_write_83 : decode b_M_write 83 = .ok (.invokevirtual 254, 3) := by decide +kernel
theorem d_M_write_86 : decode b_M_write 86 = .ok (.iinc 3 1, 3) := by decide +kernel
theorem d_M_write_89 : decode b_M_write 89 = .ok (.goto (-33), 3) := by decide +kernel
theorem d_M_write_92 : decode b_M_write 92 = .ok (.iload_n 3, 1) := by decide +kernel
theorem d_M_write_93 : decode b_M_write 93 = .ok (.ireturn, 1) := by decide +kernel
theorem d_M_takenMany_0 : decode b_M_takenMany 0 = .ok (.aload_n 0, 1) := by decide +kernel
theorem d_M_takenMany_1 : decode b_M_takenMany 1 = .ok (.invokevirtual 96, 3) := by decide +kernel
theorem d_M_takenMany_4 : decode b_M_takenMany 4 = .ok (.istore_n 1, 1) := by decide +kernel
theorem d_M_takenMany_5 : decode b_M_takenMany 5 = .ok (.iconst 0, 1) := by decide +kernel
theorem d_M_takenMany_6 : decode b_M_takenMany 6 = .ok (.istore_n 2, 1) := by decide +kernel
theorem d_M_takenMany_7 : decode b_M_takenMany 7 = .ok (.iconst 0, 1) := by decide +kernel
theorem d_M_takenMany_8 : decode b_M_takenMany 8 = .ok (.istore_n 3, 1) := by decide +kernel
theorem d_M_takenMany_9 : decode b_M_takenMany 9 = .ok (.iload_n 3, 1) := by decide +kernel
theorem d_M_takenMany_10 : decode b_M_takenMany 10 = .ok (.aload_n 0, 1) := by decide +kernel
theorem d_M_takenMany_11 : decode b_M_takenMany 11 = .ok (.getfield 93, 3) := by decide +kernel
theorem d_M_takenMany_14 : decode b_M_takenMany 14 = .ok (.if_icmp .ge 25, 3) := by decide +kernel
theorem d_M_takenMany_17 : decode b_M_takenMany 17 = .ok (.iload_n 2, 1) := by decide +kernel
theorem d_M_takenMany_18 : decode b_M_takenMany 18 = .ok (.iload_n 1, 1) := by decide +kernel
theorem d_M_takenMany_19 : decode b_M_takenMany 19 = .ok (.iload_n 3, 1) := by decide +kernel
theorem d_M_takenMany_20 : decode b_M_takenMany 20 = .ok (.invokestatic 81, 3) := by decide +kernel
theorem d_M_takenMany_23 : decode b_M_takenMany 23 = .ok (.ifCond .eq 7, 3) := by decide +kernel
theorem d_M_takenMany_26 : decode b_M_takenMany 26 = .ok (.iconst 1, 1) := by decide +kernel
theorem d_M_takenMany_27 : decode b_M_takenMany 27 = .ok (.goto 4, 3) := by decide +kernel
theorem d_M_takenMany_30 : decode b_M_takenMany 30 = .ok (.iconst 0, 1) := by decide +kernel
theorem d_M_takenMany_31 : decode b_M_takenMany 31 = .ok (.iadd, 1) := by decide +kernel
theorem d_M_takenMany_32 : decode b_M_takenMany 32 = .ok (.istore_n 2, 1) := by decide +kernel
theorem d_M_takenMany_33 : decode b_M_takenMany 33 = .ok (.iinc 3 1, 3) := by decide +kernel
theorem d_M_takenMany_36 : decode b_M_takenMany 36 = .ok (.goto (-27), 3) := by decide +kernel
theorem d_M_takenMany_39 : decode b_M_takenMany 39 = .ok (.iload_n 2, 1) := by decide +kernel
theorem d_M_takenMany_40 : decode b_M_takenMany 40 = .ok (.ireturn, 1) := by decide +kernel
theorem d_M_nodesOf_0 : decode b_M_nodesOf 0 = .ok (.aload_n 0, 1) := by decide +kernel
theorem d_M_nodesOf_1 : decode b_M_nodesOf 1 = .ok (.invokevirtual 171, 3) := by decide +kernel
theorem d_M_nodesOf_4 : decode b_M_nodesOf 4 = .ok (.iconst 0, 1) := by decide +kernel
theorem d_M_nodesOf_5 : decode b_M_nodesOf 5 = .ok (.istore_n 2, 1) := by decide +kernel
theorem d_M_nodesOf_6 : decode b_M_nodesOf 6 = .ok (.iconst 0, 1) := by decide +kernel
theorem d_M_nodesOf_7 : decode b_M_nodesOf 7 = .ok (.istore_n 3, 1) := by decide +kernel
theorem d_M_nodesOf_8 : decode b_M_nodesOf 8 = .ok (.iload_n 3, 1) := by decide +kernel
theorem d_M_nodesOf_9 : decode b_M_nodesOf 9 = .ok (.aload_n 0, 1) := by decide +kernel
theorem d_M_nodesOf_10 : decode b_M_nodesOf 10 = .ok (.getfield 156, 3) := by decide +kernel
theorem d_M_nodesOf_13 : decode b_M_nodesOf 13 = .ok (.if_icmp .ge 26, 3) := by decide +kernel
theorem d_M_nodesOf_16 : decode b_M_nodesOf 16 = .ok (.iload_n 2, 1) := by decide +kernel
theorem d_M_nodesOf_17 : decode b_M_nodesOf 17 = .ok (.iload_n 1, 1) := by decide +kernel
theorem d_M_nodesOf_18 : decode b_M_nodesOf 18 = .ok (.ifCond .eq 12, 3) := by decide +kernel
theorem d_M_nodesOf_21 : decode b_M_nodesOf 21 = .ok (.aload_n 0, 1) := by decide +kernel
theorem d_M_nodesOf_22 : decode b_M_nodesOf 22 = .ok (.getfield 32, 3) := by decide +kernel
theorem d_M_nodesOf_25 : decode b_M_nodesOf 25 = .ok (.iload_n 3, 1) := by decide +kernel
theorem d_M_nodesOf_26 : decode b_M_nodesOf 26 = .ok (.iaload, 1) := by decide +kernel
theorem d_M_nodesOf_27 : decode b_M_nodesOf 27 = .ok (.goto 4, 3) := by decide +kernel
theorem d_M_nodesOf_30 : decode b_M_nodesOf 30 = .ok (.iconst 1, 1) := by decide +kernel
theorem d_M_nodesOf_31 : decode b_M_nodesOf 31 = .ok (.iadd, 1) := by decide +kernel
theorem d_M_nodesOf_32 : decode b_M_nodesOf 32 = .ok (.istore_n 2, 1) := by decide +kernel
theorem d_M_nodesOf_33 : decode b_M_nodesOf 33 = .ok (.iinc 3 1, 3) := by decide +kernel
theorem d_M_nodesOf_36 : decode b_M_nodesOf 36 = .ok (.goto (-28), 3) := by decide +kernel
theorem d_M_nodesOf_39 : decode b_M_nodesOf 39 = .ok (.iload_n 2, 1) := by decide +kernel
theorem d_M_nodesOf_40 : decode b_M_nodesOf 40 = .ok (.ireturn, 1) := by decide +kernel
theorem d_M_count_0 : decode b_M_count 0 = .ok (.iload_n 1, 1) := by decide +kernel
theorem d_M_count_1 : decode b_M_count 1 = .ok (.tableswitch 99 0 8 #[51, 56, 61, 66, 72, 78, 83, 89, 94], 51) := by decide +kernel
theorem d_M_count_52 : decode b_M_count 52 = .ok (.aload_n 0, 1) := by decide +kernel
theorem d_M_count_53 : decode b_M_count 53 = .ok (.getfield 7, 3) := by decide +kernel
theorem d_M_count_56 : decode b_M_count 56 = .ok (.ireturn, 1) := by decide +kernel
theorem d_M_count_57 : decode b_M_count 57 = .ok (.aload_n 0, 1) := by decide +kernel
theorem d_M_count_58 : decode b_M_count 58 = .ok (.getfield 93, 3) := by decide +kernel
theorem d_M_count_61 : decode b_M_count 61 = .ok (.ireturn, 1) := by decide +kernel
theorem d_M_count_62 : decode b_M_count 62 = .ok (.aload_n 0, 1) := by decide +kernel
theorem d_M_count_63 : decode b_M_count 63 = .ok (.invokevirtual 259, 3) := by decide +kernel
theorem d_M_count_66 : decode b_M_count 66 = .ok (.ireturn, 1) := by decide +kernel
theorem d_M_count_67 : decode b_M_count 67 = .ok (.aload_n 0, 1) := by decide +kernel
theorem d_M_count_68 : decode b_M_count 68 = .ok (.iconst 0, 1) := by decide +kernel
theorem d_M_count_69 : decode b_M_count 69 = .ok (.invokevirtual 262, 3) := by decide +kernel
theorem d_M_count_72 : decode b_M_count 72 = .ok (.ireturn, 1) := by decide +kernel
theorem d_M_count_73 : decode b_M_count 73 = .ok (.aload_n 0, 1) := by decide +kernel
theorem d_M_count_74 : decode b_M_count 74 = .ok (.iconst 1, 1) := by decide +kernel
theorem d_M_count_75 : decode b_M_count 75 = .ok (.invokevirtual 262, 3) := by decide +kernel
theorem d_M_count_78 : decode b_M_count 78 = .ok (.ireturn, 1) := by decide +kernel
theorem d_M_count_79 : decode b_M_count 79 = .ok (.aload_n 0, 1) := by decide +kernel
theorem d_M_count_80 : decode b_M_count 80 = .ok (.invokevirtual 127, 3) := by decide +kernel
theorem d_M_count_83 : decode b_M_count 83 = .ok (.ireturn, 1) := by decide +kernel
theorem d_M_count_84 : decode b_M_count 84 = .ok (.aload_n 0, 1) := by decide +kernel
theorem d_M_count_85 : decode b_M_count 85 = .ok (.iconst (-1), 1) := by decide +kernel
theorem d_M_count_86 : decode b_M_count 86 = .ok (.invokevirtual 174, 3) := by decide +kernel
theorem d_M_count_89 : decode b_M_count 89 = .ok (.ireturn, 1) := by decide +kernel
theorem d_M_count_90 : decode b_M_count 90 = .ok (.aload_n 0, 1) := by decide +kernel
theorem d_M_count_91 : decode b_M_count 91 = .ok (.getfield 223, 3) := by decide +kernel
theorem d_M_count_94 : decode b_M_count 94 = .ok (.ireturn, 1) := by decide +kernel
theorem d_M_count_95 : decode b_M_count 95 = .ok (.aload_n 0, 1) := by decide +kernel
theorem d_M_count_96 : decode b_M_count 96 = .ok (.getfield 248, 3) := by decide +kernel
theorem d_M_count_99 : decode b_M_count 99 = .ok (.ireturn, 1) := by decide +kernel
theorem d_M_count_100 : decode b_M_count 100 = .ok (.bipush (-2), 2) := by decide +kernel
theorem d_M_count_102 : decode b_M_count 102 = .ok (.ireturn, 1) := by decide +kernel
theorem d_M_rowDigest_0 : decode b_M_rowDigest 0 = .ok (.lload_n 1, 1) := by decide +kernel
theorem d_M_rowDigest_1 : decode b_M_rowDigest 1 = .ok (.lstore 4, 2) := by decide +kernel
theorem d_M_rowDigest_3 : decode b_M_rowDigest 3 = .ok (.iconst 0, 1) := by decide +kernel
theorem d_M_rowDigest_4 : decode b_M_rowDigest 4 = .ok (.istore 6, 2) := by decide +kernel
theorem d_M_rowDigest_6 : decode b_M_rowDigest 6 = .ok (.iload 6, 2) := by decide +kernel
theorem d_M_rowDigest_8 : decode b_M_rowDigest 8 = .ok (.bipush 8, 2) := by decide +kernel
theorem d_M_rowDigest_10 : decode b_M_rowDigest 10 = .ok (.if_icmp .ge 26, 3) := by decide +kernel
theorem d_M_rowDigest_13 : decode b_M_rowDigest 13 = .ok (.ldc2_w 266, 3) := by decide +kernel
theorem d_M_rowDigest_16 : decode b_M_rowDigest 16 = .ok (.lload 4, 2) := by decide +kernel
theorem d_M_rowDigest_18 : decode b_M_rowDigest 18 = .ok (.lmul, 1) := by decide +kernel
theorem d_M_rowDigest_19 : decode b_M_rowDigest 19 = .ok (.aload_n 0, 1) := by decide +kernel
theorem d_M_rowDigest_20 : decode b_M_rowDigest 20 = .ok (.iload_n 3, 1) := by decide +kernel
theorem d_M_rowDigest_21 : decode b_M_rowDigest 21 = .ok (.iload 6, 2) := by decide +kernel
theorem d_M_rowDigest_23 : decode b_M_rowDigest 23 = .ok (.invokevirtual 196, 3) := by decide +kernel
theorem d_M_rowDigest_26 : decode b_M_rowDigest 26 = .ok (.i2l, 1) := by decide +kernel
theorem d_M_rowDigest_27 : decode b_M_rowDigest 27 = .ok (.ladd, 1) := by decide +kernel
theorem d_M_rowDigest_28 : decode b_M_rowDigest 28 = .ok (.lstore 4, 2) := by decide +kernel
theorem d_M_rowDigest_30 : decode b_M_rowDigest 30 = .ok (.iinc 6 1, 3) := by decide +kernel
theorem d_M_rowDigest_33 : decode b_M_rowDigest 33 = .ok (.goto (-27), 3) := by decide +kernel
theorem d_M_rowDigest_36 : decode b_M_rowDigest 36 = .ok (.lload 4, 2) := by decide +kernel
theorem d_M_rowDigest_38 : decode b_M_rowDigest 38 = .ok (.lreturn, 1) := by decide +kernel
theorem d_M_setDigest_0 : decode b_M_setDigest 0 = .ok (.ldc2_w 266, 3) := by decide +kernel
theorem d_M_setDigest_3 : decode b_M_setDigest 3 = .ok (.lload_n 1, 1) := by decide +kernel
theorem d_M_setDigest_4 : decode b_M_setDigest 4 = .ok (.lmul, 1) := by decide +kernel
theorem d_M_setDigest_5 : decode b_M_setDigest 5 = .ok (.aload_n 0, 1) := by decide +kernel
theorem d_M_setDigest_6 : decode b_M_setDigest 6 = .ok (.iload_n 3, 1) := by decide +kernel
theorem d_M_setDigest_7 : decode b_M_setDigest 7 = .ok (.invokevirtual 268, 3) := by decide +kernel
theorem d_M_setDigest_10 : decode b_M_setDigest 10 = .ok (.i2l, 1) := by decide +kernel
theorem d_M_setDigest_11 : decode b_M_setDigest 11 = .ok (.ladd, 1) := by decide +kernel
theorem d_M_setDigest_12 : decode b_M_setDigest 12 = .ok (.lstore 4, 2) := by decide +kernel
theorem d_M_setDigest_14 : decode b_M_setDigest 14 = .ok (.ldc2_w 266, 3) := by decide +kernel
theorem d_M_setDigest_17 : decode b_M_setDigest 17 = .ok (.lload 4, 2) := by decide +kernel
theorem d_M_setDigest_19 : decode b_M_setDigest 19 = .ok (.lmul, 1) := by decide +kernel
theorem d_M_setDigest_20 : decode b_M_setDigest 20 = .ok (.aload_n 0, 1) := by decide +kernel
theorem d_M_setDigest_21 : decode b_M_setDigest 21 = .ok (.iload_n 3, 1) := by decide +kernel
theorem d_M_setDigest_22 : decode b_M_setDigest 22 = .ok (.invokevirtual 271, 3) := by decide +kernel
theorem d_M_setDigest_25 : decode b_M_setDigest 25 = .ok (.i2l, 1) := by decide +kernel
theorem d_M_setDigest_26 : decode b_M_setDigest 26 = .ok (.ladd, 1) := by decide +kernel
theorem d_M_setDigest_27 : decode b_M_setDigest 27 = .ok (.lreturn, 1) := by decide +kernel
theorem d_M_digest_0 : decode b_M_digest 0 = .ok (.ldc2_w 274, 3) := by decide +kernel
theorem d_M_digest_3 : decode b_M_digest 3 = .ok (.lstore_n 1, 1) := by decide +kernel
theorem d_M_digest_4 : decode b_M_digest 4 = .ok (.iconst 0, 1) := by decide +kernel
theorem d_M_digest_5 : decode b_M_digest 5 = .ok (.istore_n 3, 1) := by decide +kernel
theorem d_M_digest_6 : decode b_M_digest 6 = .ok (.iload_n 3, 1) := by decide +kernel
theorem d_M_digest_7 : decode b_M_digest 7 = .ok (.bipush 8, 2) := by decide +kernel
theorem d_M_digest_9 : decode b_M_digest 9 = .ok (.if_icmp .ge 22, 3) := by decide +kernel
theorem d_M_digest_12 : decode b_M_digest 12 = .ok (.ldc2_w 266, 3) := by decide +kernel
theorem d_M_digest_15 : decode b_M_digest 15 = .ok (.lload_n 1, 1) := by decide +kernel
theorem d_M_digest_16 : decode b_M_digest 16 = .ok (.lmul, 1) := by decide +kernel
theorem d_M_digest_17 : decode b_M_digest 17 = .ok (.aload_n 0, 1) := by decide +kernel
theorem d_M_digest_18 : decode b_M_digest 18 = .ok (.iload_n 3, 1) := by decide +kernel
theorem d_M_digest_19 : decode b_M_digest 19 = .ok (.invokevirtual 276, 3) := by decide +kernel
theorem d_M_digest_22 : decode b_M_digest 22 = .ok (.i2l, 1) := by decide +kernel
theorem d_M_digest_23 : decode b_M_digest 23 = .ok (.ladd, 1) := by decide +kernel
theorem d_M_digest_24 : decode b_M_digest 24 = .ok (.lstore_n 1, 1) := by decide +kernel
theorem d_M_digest_25 : decode b_M_digest 25 = .ok (.iinc 3 1, 3) := by decide +kernel
theorem d_M_digest_28 : decode b_M_digest 28 = .ok (.goto (-22), 3) := by decide +kernel
theorem d_M_digest_31 : decode b_M_digest 31 = .ok (.iconst 0, 1) := by decide +kernel
theorem d_M_digest_32 : decode b_M_digest 32 = .ok (.istore_n 3, 1) := by decide +kernel
theorem d_M_digest_33 : decode b_M_digest 33 = .ok (.iload_n 3, 1) := by decide +kernel
theorem d_M_digest_34 : decode b_M_digest 34 = .ok (.aload_n 0, 1) := by decide +kernel
theorem d_M_digest_35 : decode b_M_digest 35 = .ok (.getfield 93, 3) := by decide +kernel
theorem d_M_digest_38 : decode b_M_digest 38 = .ok (.if_icmp .ge 35, 3) := by decide +kernel
theorem d_M_digest_41 : decode b_M_digest 41 = .ok (.ldc2_w 266, 3) := by decide +kernel
theorem d_M_digest_44 : decode b_M_digest 44 = .ok (.lload_n 1, 1) := by decide +kernel
theorem d_M_digest_45 : decode b_M_digest 45 = .ok (.lmul, 1) := by decide +kernel
theorem d_M_digest_46 : decode b_M_digest 46 = .ok (.aload_n 0, 1) := by decide +kernel
theorem d_M_digest_47 : decode b_M_digest 47 = .ok (.iload_n 3, 1) := by decide +kernel
theorem d_M_digest_48 : decode b_M_digest 48 = .ok (.invokevirtual 279, 3) := by decide +kernel
theorem d_M_digest_51 : decode b_M_digest 51 = .ok (.i2l, 1) := by decide +kernel
theorem d_M_digest_52 : decode b_M_digest 52 = .ok (.ladd, 1) := by decide +kernel
theorem d_M_digest_53 : decode b_M_digest 53 = .ok (.lstore_n 1, 1) := by decide +kernel
theorem d_M_digest_54 : decode b_M_digest 54 = .ok (.ldc2_w 266, 3) := by decide +kernel
theorem d_M_digest_57 : decode b_M_digest 57 = .ok (.lload_n 1, 1) := by decide +kernel
theorem d_M_digest_58 : decode b_M_digest 58 = .ok (.lmul, 1) := by decide +kernel
theorem d_M_digest_59 : decode b_M_digest 59 = .ok (.aload_n 0, 1) := by decide +kernel
theorem d_M_digest_60 : decode b_M_digest 60 = .ok (.iload_n 3, 1) := by decide +kernel
theorem d_M_digest_61 : decode b_M_digest 61 = .ok (.invokevirtual 282, 3) := by decide +kernel
theorem d_M_digest_64 : decode b_M_digest 64 = .ok (.i2l, 1) := by decide +kernel
theorem d_M_digest_65 : decode b_M_digest 65 = .ok (.ladd, 1) := by decide +kernel
theorem d_M_digest_66 : decode b_M_digest 66 = .ok (.lstore_n 1, 1) := by decide +kernel
theorem d_M_digest_67 : decode b_M_digest 67 = .ok (.iinc 3 1, 3) := by decide +kernel
theorem d_M_digest_70 : decode b_M_digest 70 = .ok (.goto (-37), 3) := by decide +kernel
theorem d_M_digest_73 : decode b_M_digest 73 = .ok (.ldc2_w 266, 3) := by decide +kernel
theorem d_M_digest_76 : decode b_M_digest 76 = .ok (.lload_n 1, 1) := by decide +kernel
theorem d_M_digest_77 : decode b_M_digest 77 = .ok (.lmul, 1) := by decide +kernel
theorem d_M_digest_78 : decode b_M_digest 78 = .ok (.aload_n 0, 1) := by decide +kernel
theorem d_M_digest_79 : decode b_M_digest 79 = .ok (.invokevirtual 127, 3) := by decide +kernel
theorem d_M_digest_82 : decode b_M_digest 82 = .ok (.i2l, 1) := by decide +kernel
theorem d_M_digest_83 : decode b_M_digest 83 = .ok (.ladd, 1) := by decide +kernel
theorem d_M_digest_84 : decode b_M_digest 84 = .ok (.lstore_n 1, 1) := by decide +kernel
theorem d_M_digest_85 : decode b_M_digest 85 = .ok (.iconst (-1), 1) := by decide +kernel
theorem d_M_digest_86 : decode b_M_digest 86 = .ok (.istore_n 3, 1) := by decide +kernel
theorem d_M_digest_87 : decode b_M_digest 87 = .ok (.iload_n 3, 1) := by decide +kernel
theorem d_M_digest_88 : decode b_M_digest 88 = .ok (.bipush 40, 2) := by decide +kernel
theorem d_M_digest_90 : decode b_M_digest 90 = .ok (.if_icmp .ge 22, 3) := by decide +kernel
theorem d_M_digest_93 : decode b_M_digest 93 = .ok (.ldc2_w 266, 3) := by decide +kernel
theorem d_M_digest_96 : decode b_M_digest 96 = .ok (.lload_n 1, 1) := by decide +kernel
theorem d_M_digest_97 : decode b_M_digest 97 = .ok (.lmul, 1) := by decide +kernel
theorem d_M_digest_98 : decode b_M_digest 98 = .ok (.aload_n 0, 1) := by decide +kernel
theorem d_M_digest_99 : decode b_M_digest 99 = .ok (.iload_n 3, 1) := by decide +kernel
theorem d_M_digest_100 : decode b_M_digest 100 = .ok (.invokevirtual 174, 3) := by decide +kernel
theorem d_M_digest_103 : decode b_M_digest 103 = .ok (.i2l, 1) := by decide +kernel
theorem d_M_digest_104 : decode b_M_digest 104 = .ok (.ladd, 1) := by decide +kernel
theorem d_M_digest_105 : decode b_M_digest 105 = .ok (.lstore_n 1, 1) := by decide +kernel
theorem d_M_digest_106 : decode b_M_digest 106 = .ok (.iinc 3 1, 3) := by decide +kernel
theorem d_M_digest_109 : decode b_M_digest 109 = .ok (.goto (-22), 3) := by decide +kernel
theorem d_M_digest_112 : decode b_M_digest 112 = .ok (.iconst 0, 1) := by decide +kernel
theorem d_M_digest_113 : decode b_M_digest 113 = .ok (.istore_n 3, 1) := by decide +kernel
theorem d_M_digest_114 : decode b_M_digest 114 = .ok (.iload_n 3, 1) := by decide +kernel
theorem d_M_digest_115 : decode b_M_digest 115 = .ok (.bipush 7, 2) := by decide +kernel
theorem d_M_digest_117 : decode b_M_digest 117 = .ok (.if_icmp .ge 39, 3) := by decide +kernel
theorem d_M_digest_120 : decode b_M_digest 120 = .ok (.iconst 0, 1) := by decide +kernel
theorem d_M_digest_121 : decode b_M_digest 121 = .ok (.istore 4, 2) := by decide +kernel
theorem d_M_digest_123 : decode b_M_digest 123 = .ok (.iload 4, 2) := by decide +kernel
theorem d_M_digest_125 : decode b_M_digest 125 = .ok (.iconst 3, 1) := by decide +kernel
theorem d_M_digest_126 : decode b_M_digest 126 = .ok (.if_icmp .ge 24, 3) := by decide +kernel
theorem d_M_digest_129 : decode b_M_digest 129 = .ok (.ldc2_w 266, 3) := by decide +kernel
theorem d_M_digest_132 : decode b_M_digest 132 = .ok (.lload_n 1, 1) := by decide +kernel
theorem d_M_digest_133 : decode b_M_digest 133 = .ok (.lmul, 1) := by decide +kernel
theorem d_M_digest_134 : decode b_M_digest 134 = .ok (.aload_n 0, 1) := by decide +kernel
theorem d_M_digest_135 : decode b_M_digest 135 = .ok (.iload_n 3, 1) := by decide +kernel
theorem d_M_digest_136 : decode b_M_digest 136 = .ok (.iload 4, 2) := by decide +kernel
theorem d_M_digest_138 : decode b_M_digest 138 = .ok (.invokevirtual 177, 3) := by decide +kernel
theorem d_M_digest_141 : decode b_M_digest 141 = .ok (.i2l, 1) := by decide +kernel
theorem d_M_digest_142 : decode b_M_digest 142 = .ok (.ladd, 1) := by decide +kernel
theorem d_M_digest_143 : decode b_M_digest 143 = .ok (.lstore_n 1, 1) := by decide +kernel
theorem d_M_digest_144 : decode b_M_digest 144 = .ok (.iinc 4 1, 3) := by decide +kernel
theorem d_M_digest_147 : decode b_M_digest 147 = .ok (.goto (-24), 3) := by decide +kernel
theorem d_M_digest_150 : decode b_M_digest 150 = .ok (.iinc 3 1, 3) := by decide +kernel
theorem d_M_digest_153 : decode b_M_digest 153 = .ok (.goto (-39), 3) := by decide +kernel
theorem d_M_digest_156 : decode b_M_digest 156 = .ok (.aload_n 0, 1) := by decide +kernel
theorem d_M_digest_157 : decode b_M_digest 157 = .ok (.lload_n 1, 1) := by decide +kernel
theorem d_M_digest_158 : decode b_M_digest 158 = .ok (.iconst 0, 1) := by decide +kernel
theorem d_M_digest_159 : decode b_M_digest 159 = .ok (.invokevirtual 285, 3) := by decide +kernel
theorem d_M_digest_162 : decode b_M_digest 162 = .ok (.lstore_n 1, 1) := by decide +kernel
theorem d_M_digest_163 : decode b_M_digest 163 = .ok (.aload_n 0, 1) := by decide +kernel
theorem d_M_digest_164 : decode b_M_digest 164 = .ok (.lload_n 1, 1) := by decide +kernel
theorem d_M_digest_165 : decode b_M_digest 165 = .ok (.iconst 1, 1) := by decide +kernel
theorem d_M_digest_166 : decode b_M_digest 166 = .ok (.invokevirtual 285, 3) := by decide +kernel
theorem d_M_digest_169 : decode b_M_digest 169 = .ok (.lstore_n 1, 1) := by decide +kernel
theorem d_M_digest_170 : decode b_M_digest 170 = .ok (.aload_n 0, 1) := by decide +kernel
theorem d_M_digest_171 : decode b_M_digest 171 = .ok (.lload_n 1, 1) := by decide +kernel
theorem d_M_digest_172 : decode b_M_digest 172 = .ok (.iconst 2, 1) := by decide +kernel
theorem d_M_digest_173 : decode b_M_digest 173 = .ok (.invokevirtual 285, 3) := by decide +kernel
theorem d_M_digest_176 : decode b_M_digest 176 = .ok (.lstore_n 1, 1) := by decide +kernel
theorem d_M_digest_177 : decode b_M_digest 177 = .ok (.aload_n 0, 1) := by decide +kernel
theorem d_M_digest_178 : decode b_M_digest 178 = .ok (.lload_n 1, 1) := by decide +kernel
theorem d_M_digest_179 : decode b_M_digest 179 = .ok (.iconst 5, 1) := by decide +kernel
theorem d_M_digest_180 : decode b_M_digest 180 = .ok (.invokevirtual 285, 3) := by decide +kernel
theorem d_M_digest_183 : decode b_M_digest 183 = .ok (.lstore_n 1, 1) := by decide +kernel
theorem d_M_digest_184 : decode b_M_digest 184 = .ok (.aload_n 0, 1) := by decide +kernel
theorem d_M_digest_185 : decode b_M_digest 185 = .ok (.lload_n 1, 1) := by decide +kernel
theorem d_M_digest_186 : decode b_M_digest 186 = .ok (.bipush 100, 2) := by decide +kernel
theorem d_M_digest_188 : decode b_M_digest 188 = .ok (.invokevirtual 285, 3) := by decide +kernel
theorem d_M_digest_191 : decode b_M_digest 191 = .ok (.lstore_n 1, 1) := by decide +kernel
theorem d_M_digest_192 : decode b_M_digest 192 = .ok (.aload_n 0, 1) := by decide +kernel
theorem d_M_digest_193 : decode b_M_digest 193 = .ok (.lload_n 1, 1) := by decide +kernel
theorem d_M_digest_194 : decode b_M_digest 194 = .ok (.iconst 3, 1) := by decide +kernel
theorem d_M_digest_195 : decode b_M_digest 195 = .ok (.invokevirtual 289, 3) := by decide +kernel
theorem d_M_digest_198 : decode b_M_digest 198 = .ok (.lstore_n 1, 1) := by decide +kernel
theorem d_M_digest_199 : decode b_M_digest 199 = .ok (.aload_n 0, 1) := by decide +kernel
theorem d_M_digest_200 : decode b_M_digest 200 = .ok (.lload_n 1, 1) := by decide +kernel
theorem d_M_digest_201 : decode b_M_digest 201 = .ok (.bipush 6, 2) := by decide +kernel
theorem d_M_digest_203 : decode b_M_digest 203 = .ok (.invokevirtual 289, 3) := by decide +kernel
theorem d_M_digest_206 : decode b_M_digest 206 = .ok (.lstore_n 1, 1) := by decide +kernel
theorem d_M_digest_207 : decode b_M_digest 207 = .ok (.aload_n 0, 1) := by decide +kernel
theorem d_M_digest_208 : decode b_M_digest 208 = .ok (.lload_n 1, 1) := by decide +kernel
theorem d_M_digest_209 : decode b_M_digest 209 = .ok (.bipush 12, 2) := by decide +kernel
theorem d_M_digest_211 : decode b_M_digest 211 = .ok (.invokevirtual 289, 3) := by decide +kernel
theorem d_M_digest_214 : decode b_M_digest 214 = .ok (.lstore_n 1, 1) := by decide +kernel
theorem d_M_digest_215 : decode b_M_digest 215 = .ok (.aload_n 0, 1) := by decide +kernel
theorem d_M_digest_216 : decode b_M_digest 216 = .ok (.lload_n 1, 1) := by decide +kernel
theorem d_M_digest_217 : decode b_M_digest 217 = .ok (.iconst 5, 1) := by decide +kernel
theorem d_M_digest_218 : decode b_M_digest 218 = .ok (.invokevirtual 289, 3) := by decide +kernel
theorem d_M_digest_221 : decode b_M_digest 221 = .ok (.lstore_n 1, 1) := by decide +kernel
theorem d_M_digest_222 : decode b_M_digest 222 = .ok (.aload_n 0, 1) := by decide +kernel
theorem d_M_digest_223 : decode b_M_digest 223 = .ok (.lload_n 1, 1) := by decide +kernel
theorem d_M_digest_224 : decode b_M_digest 224 = .ok (.bipush 7, 2) := by decide +kernel
theorem d_M_digest_226 : decode b_M_digest 226 = .ok (.invokevirtual 289, 3) := by decide +kernel
theorem d_M_digest_229 : decode b_M_digest 229 = .ok (.lstore_n 1, 1) := by decide +kernel
theorem d_M_digest_230 : decode b_M_digest 230 = .ok (.aload_n 0, 1) := by decide +kernel
theorem d_M_digest_231 : decode b_M_digest 231 = .ok (.lload_n 1, 1) := by decide +kernel
theorem d_M_digest_232 : decode b_M_digest 232 = .ok (.bipush 14, 2) := by decide +kernel
theorem d_M_digest_234 : decode b_M_digest 234 = .ok (.invokevirtual 289, 3) := by decide +kernel
theorem d_M_digest_237 : decode b_M_digest 237 = .ok (.lstore_n 1, 1) := by decide +kernel
theorem d_M_digest_238 : decode b_M_digest 238 = .ok (.iconst 0, 1) := by decide +kernel
theorem d_M_digest_239 : decode b_M_digest 239 = .ok (.istore_n 3, 1) := by decide +kernel
theorem d_M_digest_240 : decode b_M_digest 240 = .ok (.iload_n 3, 1) := by decide +kernel
theorem d_M_digest_241 : decode b_M_digest 241 = .ok (.aload_n 0, 1) := by decide +kernel
theorem d_M_digest_242 : decode b_M_digest 242 = .ok (.getfield 7, 3) := by decide +kernel
theorem d_M_digest_245 : decode b_M_digest 245 = .ok (.if_icmp .ge 59, 3) := by decide +kernel
theorem d_M_digest_248 : decode b_M_digest 248 = .ok (.iconst 0, 1) := by decide +kernel
theorem d_M_digest_249 : decode b_M_digest 249 = .ok (.istore 4, 2) := by decide +kernel
theorem d_M_digest_251 : decode b_M_digest 251 = .ok (.iload 4, 2) := by decide +kernel
theorem d_M_digest_253 : decode b_M_digest 253 = .ok (.aload_n 0, 1) := by decide +kernel
theorem d_M_digest_254 : decode b_M_digest 254 = .ok (.getfield 7, 3) := by decide +kernel
theorem d_M_digest_257 : decode b_M_digest 257 = .ok (.if_icmp .ge 41, 3) := by decide +kernel
theorem d_M_digest_260 : decode b_M_digest 260 = .ok (.ldc2_w 266, 3) := by decide +kernel
theorem d_M_digest_263 : decode b_M_digest 263 = .ok (.lload_n 1, 1) := by decide +kernel
theorem d_M_digest_264 : decode b_M_digest 264 = .ok (.lmul, 1) := by decide +kernel
theorem d_M_digest_265 : decode b_M_digest 265 = .ok (.aload_n 0, 1) := by decide +kernel
theorem d_M_digest_266 : decode b_M_digest 266 = .ok (.iload_n 3, 1) := by decide +kernel
theorem d_M_digest_267 : decode b_M_digest 267 = .ok (.iload 4, 2) := by decide +kernel
theorem d_M_digest_269 : decode b_M_digest 269 = .ok (.iconst 0, 1) := by decide +kernel
theorem d_M_digest_270 : decode b_M_digest 270 = .ok (.invokevirtual 292, 3) := by decide +kernel
theorem d_M_digest_273 : decode b_M_digest 273 = .ok (.i2l, 1) := by decide +kernel
theorem d_M_digest_274 : decode b_M_digest 274 = .ok (.ladd, 1) := by decide +kernel
theorem d_M_digest_275 : decode b_M_digest 275 = .ok (.lstore_n 1, 1) := by decide +kernel
theorem d_M_digest_276 : decode b_M_digest 276 = .ok (.ldc2_w 266, 3) := by decide +kernel
theorem d_M_digest_279 : decode b_M_digest 279 = .ok (.lload_n 1, 1) := by decide +kernel
theorem d_M_digest_280 : decode b_M_digest 280 = .ok (.lmul, 1) := by decide +kernel
theorem d_M_digest_281 : decode b_M_digest 281 = .ok (.aload_n 0, 1) := by decide +kernel
theorem d_M_digest_282 : decode b_M_digest 282 = .ok (.iload_n 3, 1) := by decide +kernel
theorem d_M_digest_283 : decode b_M_digest 283 = .ok (.iload 4, 2) := by decide +kernel
theorem d_M_digest_285 : decode b_M_digest 285 = .ok (.iconst 1, 1) := by decide +kernel
theorem d_M_digest_286 : decode b_M_digest 286 = .ok (.invokevirtual 292, 3) := by decide +kernel
theorem d_M_digest_289 : decode b_M_digest 289 = .ok (.i2l, 1) := by decide +kernel
theorem d_M_digest_290 : decode b_M_digest 290 = .ok (.ladd, 1) := by decide +kernel
theorem d_M_digest_291 : decode b_M_digest 291 = .ok (.lstore_n 1, 1) := by decide +kernel
theorem d_M_digest_292 : decode b_M_digest 292 = .ok (.iinc 4 1, 3) := by decide +kernel
theorem d_M_digest_295 : decode b_M_digest 295 = .ok (.goto (-44), 3) := by decide +kernel
theorem d_M_digest_298 : decode b_M_digest 298 = .ok (.iinc 3 1, 3) := by decide +kernel
theorem d_M_digest_301 : decode b_M_digest 301 = .ok (.goto (-61), 3) := by decide +kernel
theorem d_M_digest_304 : decode b_M_digest 304 = .ok (.ldc2_w 266, 3) := by decide +kernel
theorem d_M_digest_307 : decode b_M_digest 307 = .ok (.lload_n 1, 1) := by decide +kernel
theorem d_M_digest_308 : decode b_M_digest 308 = .ok (.lmul, 1) := by decide +kernel
theorem d_M_digest_309 : decode b_M_digest 309 = .ok (.aload_n 0, 1) := by decide +kernel
theorem d_M_digest_310 : decode b_M_digest 310 = .ok (.invokevirtual 220, 3) := by decide +kernel
theorem d_M_digest_313 : decode b_M_digest 313 = .ok (.i2l, 1) := by decide +kernel
theorem d_M_digest_314 : decode b_M_digest 314 = .ok (.ladd, 1) := by decide +kernel
theorem d_M_digest_315 : decode b_M_digest 315 = .ok (.lstore_n 1, 1) := by decide +kernel
theorem d_M_digest_316 : decode b_M_digest 316 = .ok (.ldc2_w 266, 3) := by decide +kernel
theorem d_M_digest_319 : decode b_M_digest 319 = .ok (.lload_n 1, 1) := by decide +kernel
theorem d_M_digest_320 : decode b_M_digest 320 = .ok (.lmul, 1) := by decide +kernel
theorem d_M_digest_321 : decode b_M_digest 321 = .ok (.aload_n 0, 1) := by decide +kernel
theorem d_M_digest_322 : decode b_M_digest 322 = .ok (.invokevirtual 226, 3) := by decide +kernel
theorem d_M_digest_325 : decode b_M_digest 325 = .ok (.i2l, 1) := by decide +kernel
theorem d_M_digest_326 : decode b_M_digest 326 = .ok (.ladd, 1) := by decide +kernel
theorem d_M_digest_327 : decode b_M_digest 327 = .ok (.lstore_n 1, 1) := by decide +kernel
theorem d_M_digest_328 : decode b_M_digest 328 = .ok (.ldc2_w 266, 3) := by decide +kernel
theorem d_M_digest_331 : decode b_M_digest 331 = .ok (.lload_n 1, 1) := by decide +kernel
theorem d_M_digest_332 : decode b_M_digest 332 = .ok (.lmul, 1) := by decide +kernel
theorem d_M_digest_333 : decode b_M_digest 333 = .ok (.aload_n 0, 1) := by decide +kernel
theorem d_M_digest_334 : decode b_M_digest 334 = .ok (.invokevirtual 295, 3) := by decide +kernel
theorem d_M_digest_337 : decode b_M_digest 337 = .ok (.i2l, 1) := by decide +kernel
theorem d_M_digest_338 : decode b_M_digest 338 = .ok (.ladd, 1) := by decide +kernel
theorem d_M_digest_339 : decode b_M_digest 339 = .ok (.lstore_n 1, 1) := by decide +kernel
theorem d_M_digest_340 : decode b_M_digest 340 = .ok (.ldc2_w 266, 3) := by decide +kernel
theorem d_M_digest_343 : decode b_M_digest 343 = .ok (.lload_n 1, 1) := by decide +kernel
theorem d_M_digest_344 : decode b_M_digest 344 = .ok (.lmul, 1) := by decide +kernel
theorem d_M_digest_345 : decode b_M_digest 345 = .ok (.aload_n 0, 1) := by decide +kernel
theorem d_M_digest_346 : decode b_M_digest 346 = .ok (.invokevirtual 298, 3) := by decide +kernel
theorem d_M_digest_349 : decode b_M_digest 349 = .ok (.i2l, 1) := by decide +kernel
theorem d_M_digest_350 : decode b_M_digest 350 = .ok (.ladd, 1) := by decide +kernel
theorem d_M_digest_351 : decode b_M_digest 351 = .ok (.lreturn, 1) := by decide +kernel
