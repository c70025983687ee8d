/-! Rows of code of the methods that are read step by step: printed by wip/whole/runc.py. -/
theorem c0_0 : xCD 0 0 = some (.aload_n 0, []) := rfl
theorem c0_1 : xCD 0 1 = some (.invokespecial 1, [1, 0, 1, 2]) := rfl
theorem c0_4 : xCD 0 4 = some (.aload_n 0, []) := rfl
theorem c0_5 : xCD 0 5 = some (.new 7, [1, 3, 4, 5]) := rfl
theorem c0_8 : xCD 0 8 = some (.dup, []) := rfl
theorem c0_9 : xCD 0 9 = some (.invokespecial 9, [2, 0, 1, 0, 7, 5, 6]) := rfl
theorem c0_12 : xCD 0 12 = some (.putfield 10, [0, 0, 8]) := rfl
theorem c0_15 : xCD 0 15 = some (.aload_n 0, []) := rfl
theorem c0_16 : xCD 0 16 = some (.new 16, [2, 9, 10, 11]) := rfl
theorem c0_19 : xCD 0 19 = some (.dup, []) := rfl
theorem c0_20 : xCD 0 20 = some (.invokespecial 18, [3, 0, 1, 3, 13, 11, 12]) := rfl
theorem c0_23 : xCD 0 23 = some (.putfield 19, [0, 1, 14]) := rfl
theorem c0_26 : xCD 0 26 = some (.aload_n 0, []) := rfl
theorem c0_27 : xCD 0 27 = some (.new 23, [3, 15, 16, 17]) := rfl
theorem c0_30 : xCD 0 30 = some (.dup, []) := rfl
theorem c0_31 : xCD 0 31 = some (.invokespecial 25, [4, 0, 1, 4, 19, 17, 18]) := rfl
theorem c0_34 : xCD 0 34 = some (.putfield 26, [0, 2, 20]) := rfl
theorem c0_37 : xCD 0 37 = some (.aload_n 0, []) := rfl
theorem c0_38 : xCD 0 38 = some (.new 30, [4, 21, 22, 23]) := rfl
theorem c0_41 : xCD 0 41 = some (.dup, []) := rfl
theorem c0_42 : xCD 0 42 = some (.invokespecial 32, [5, 0, 1, 5, 25, 23, 24]) := rfl
theorem c0_45 : xCD 0 45 = some (.putfield 33, [0, 3, 26]) := rfl
theorem c0_48 : xCD 0 48 = some (.aload_n 0, []) := rfl
theorem c0_49 : xCD 0 49 = some (.new 30, [4, 21, 22, 23]) := rfl
theorem c0_52 : xCD 0 52 = some (.dup, []) := rfl
theorem c0_53 : xCD 0 53 = some (.invokespecial 32, [5, 0, 1, 5, 25, 23, 24]) := rfl
theorem c0_56 : xCD 0 56 = some (.putfield 37, [0, 4, 27]) := rfl
theorem c0_59 : xCD 0 59 = some (.aload_n 0, []) := rfl
theorem c0_60 : xCD 0 60 = some (.new 23, [3, 15, 16, 17]) := rfl
theorem c0_63 : xCD 0 63 = some (.dup, []) := rfl
theorem c0_64 : xCD 0 64 = some (.invokespecial 25, [4, 0, 1, 4, 19, 17, 18]) := rfl
theorem c0_67 : xCD 0 67 = some (.putfield 40, [0, 5, 28]) := rfl
theorem c0_70 : xCD 0 70 = some (.aload_n 0, []) := rfl
theorem c0_71 : xCD 0 71 = some (.new 43, [5, 29, 30, 31]) := rfl
theorem c0_74 : xCD 0 74 = some (.dup, []) := rfl
theorem c0_75 : xCD 0 75 = some (.aload_n 0, []) := rfl
theorem c0_76 : xCD 0 76 = some (.getfield 19, [0, 1, 14]) := rfl
theorem c0_79 : xCD 0 79 = some (.aload_n 0, []) := rfl
theorem c0_80 : xCD 0 80 = some (.getfield 40, [0, 5, 28]) := rfl
theorem c0_83 : xCD 0 83 = some (.invokespecial 45, [6, 2, 0, 32, 34, 31, 33]) := rfl
theorem c0_86 : xCD 0 86 = some (.putfield 48, [0, 6, 35]) := rfl
theorem c0_89 : xCD 0 89 = some (.aload_n 0, []) := rfl
theorem c0_90 : xCD 0 90 = some (.new 52, [6, 36, 37, 38]) := rfl
theorem c0_93 : xCD 0 93 = some (.dup, []) := rfl
theorem c0_94 : xCD 0 94 = some (.aload_n 0, []) := rfl
theorem c0_95 : xCD 0 95 = some (.getfield 19, [0, 1, 14]) := rfl
theorem c0_98 : xCD 0 98 = some (.aload_n 0, []) := rfl
theorem c0_99 : xCD 0 99 = some (.getfield 40, [0, 5, 28]) := rfl
theorem c0_102 : xCD 0 102 = some (.aload_n 0, []) := rfl
theorem c0_103 : xCD 0 103 = some (.getfield 48, [0, 6, 35]) := rfl
theorem c0_106 : xCD 0 106 = some (.invokespecial 54, [7, 3, 0, 39, 41, 38, 40]) := rfl
theorem c0_109 : xCD 0 109 = some (.putfield 57, [0, 7, 42]) := rfl
theorem c0_112 : xCD 0 112 = some (.aload_n 0, []) := rfl
theorem c0_113 : xCD 0 113 = some (.bipush 6, []) := rfl
theorem c0_115 : xCD 0 115 = some (.newarray .int, [0, 43]) := rfl
theorem c0_117 : xCD 0 117 = some (.putfield 61, [0, 8, 44]) := rfl
theorem c0_120 : xCD 0 120 = some (.aload_n 0, []) := rfl
theorem c0_121 : xCD 0 121 = some (.bipush 6, []) := rfl
theorem c0_123 : xCD 0 123 = some (.newarray .int, [0, 43]) := rfl
theorem c0_125 : xCD 0 125 = some (.putfield 65, [0, 9, 45]) := rfl
theorem c0_128 : xCD 0 128 = some (.aload_n 0, []) := rfl
theorem c0_129 : xCD 0 129 = some (.iconst 0, []) := rfl
theorem c0_130 : xCD 0 130 = some (.putfield 68, [0, 10, 46]) := rfl
theorem c0_133 : xCD 0 133 = some (.aload_n 0, []) := rfl
theorem c0_134 : xCD 0 134 = some (.iconst 0, []) := rfl
theorem c0_135 : xCD 0 135 = some (.putfield 72, [0, 11, 47]) := rfl
theorem c0_138 : xCD 0 138 = some (.aload_n 0, []) := rfl
theorem c0_139 : xCD 0 139 = some (.bipush (-4), []) := rfl
theorem c0_141 : xCD 0 141 = some (.putfield 75, [0, 12, 48]) := rfl
theorem c0_144 : xCD 0 144 = some (.iconst 0, []) := rfl
theorem c0_145 : xCD 0 145 = some (.istore_n 1, []) := rfl
theorem c0_146 : xCD 0 146 = some (.iload_n 1, []) := rfl
theorem c0_147 : xCD 0 147 = some (.ldc 78, [0, 0]) := rfl
theorem c0_149 : xCD 0 149 = some (.invokevirtual 80, [8, 0, 0, 49, 52, 50, 51, 53]) := rfl
theorem c0_152 : xCD 0 152 = some (.if_icmp .ge 23, [175]) := rfl
theorem c0_155 : xCD 0 155 = some (.aload_n 0, []) := rfl
theorem c0_156 : xCD 0 156 = some (.getfield 10, [0, 0, 8]) := rfl
theorem c0_159 : xCD 0 159 = some (.ldc 78, [0, 0]) := rfl
theorem c0_161 : xCD 0 161 = some (.iload_n 1, []) := rfl
theorem c0_162 : xCD 0 162 = some (.invokevirtual 86, [10, 1, 0, 54, 56, 50, 55, 57]) := rfl
theorem c0_165 : xCD 0 165 = some (.invokevirtual 90, [19, 1, 0, 58, 60, 5, 59, 61]) := rfl
theorem c0_168 : xCD 0 168 = some (.pop, []) := rfl
theorem c0_169 : xCD 0 169 = some (.iinc 1 1, []) := rfl
theorem c0_172 : xCD 0 172 = some (.goto (-26), [146]) := rfl
theorem c0_175 : xCD 0 175 = some (.aload_n 0, []) := rfl
theorem c0_176 : xCD 0 176 = some (.invokevirtual 94, [20, 0, 0, 62, 65, 63, 64, 66]) := rfl
theorem c0_179 : xCD 0 179 = some (.pop, []) := rfl
theorem c0_180 : xCD 0 180 = some (.aload_n 0, []) := rfl
theorem c0_181 : xCD 0 181 = some (.getfield 10, [0, 0, 8]) := rfl
theorem c0_184 : xCD 0 184 = some (.iconst 0, []) := rfl
theorem c0_185 : xCD 0 185 = some (.putfield 97, [1, 1, 67]) := rfl
theorem c0_188 : xCD 0 188 = some (.return_, []) := rfl
theorem c2_0 : xCD 2 0 = some (.aload_n 0, []) := rfl
theorem c2_1 : xCD 2 1 = some (.invokespecial 3, [1, 68, 1, 2]) := rfl
theorem c2_4 : xCD 2 4 = some (.aload_n 0, []) := rfl
theorem c2_5 : xCD 2 5 = some (.sipush 200, []) := rfl
theorem c2_8 : xCD 2 8 = some (.newarray .char, [1, 69]) := rfl
theorem c2_10 : xCD 2 10 = some (.putfield 9, [1, 0, 70]) := rfl
theorem c2_13 : xCD 2 13 = some (.aload_n 0, []) := rfl
theorem c2_14 : xCD 2 14 = some (.iconst 0, []) := rfl
theorem c2_15 : xCD 2 15 = some (.putfield 15, [1, 1, 71]) := rfl
theorem c2_18 : xCD 2 18 = some (.aload_n 0, []) := rfl
theorem c2_19 : xCD 2 19 = some (.new 19, [2, 72, 10, 11]) := rfl
theorem c2_22 : xCD 2 22 = some (.dup, []) := rfl
theorem c2_23 : xCD 2 23 = some (.invokespecial 21, [3, 0, 1, 1, 13, 11, 12]) := rfl
theorem c2_26 : xCD 2 26 = some (.putfield 22, [1, 2, 73]) := rfl
theorem c2_29 : xCD 2 29 = some (.aload_n 0, []) := rfl
theorem c2_30 : xCD 2 30 = some (.new 26, [3, 74, 16, 17]) := rfl
theorem c2_33 : xCD 2 33 = some (.dup, []) := rfl
theorem c2_34 : xCD 2 34 = some (.invokespecial 28, [4, 0, 1, 2, 19, 17, 18]) := rfl
theorem c2_37 : xCD 2 37 = some (.putfield 29, [1, 3, 75]) := rfl
theorem c2_40 : xCD 2 40 = some (.aload_n 0, []) := rfl
theorem c2_41 : xCD 2 41 = some (.iconst 4, []) := rfl
theorem c2_42 : xCD 2 42 = some (.newarray .int, [0, 43]) := rfl
theorem c2_44 : xCD 2 44 = some (.putfield 33, [1, 4, 76]) := rfl
theorem c2_47 : xCD 2 47 = some (.aload_n 0, []) := rfl
theorem c2_48 : xCD 2 48 = some (.iconst 0, []) := rfl
theorem c2_49 : xCD 2 49 = some (.putfield 37, [1, 5, 77]) := rfl
theorem c2_52 : xCD 2 52 = some (.aload_n 0, []) := rfl
theorem c2_53 : xCD 2 53 = some (.iconst 0, []) := rfl
theorem c2_54 : xCD 2 54 = some (.putfield 40, [1, 6, 78]) := rfl
theorem c2_57 : xCD 2 57 = some (.return_, []) := rfl
theorem c3_0 : xCD 3 0 = some (.aload_n 0, []) := rfl
theorem c3_1 : xCD 3 1 = some (.invokespecial 3, [1, 79, 1, 2]) := rfl
theorem c3_4 : xCD 3 4 = some (.aload_n 0, []) := rfl
theorem c3_5 : xCD 3 5 = some (.bipush 36, []) := rfl
theorem c3_7 : xCD 3 7 = some (.newarray .int, [0, 43]) := rfl
theorem c3_9 : xCD 3 9 = some (.putfield 9, [2, 3, 80]) := rfl
theorem c3_12 : xCD 3 12 = some (.aload_n 0, []) := rfl
theorem c3_13 : xCD 3 13 = some (.iconst 4, []) := rfl
theorem c3_14 : xCD 3 14 = some (.newarray .int, [0, 43]) := rfl
theorem c3_16 : xCD 3 16 = some (.putfield 15, [2, 4, 81]) := rfl
theorem c3_19 : xCD 3 19 = some (.return_, []) := rfl
theorem c4_0 : xCD 4 0 = some (.aload_n 0, []) := rfl
theorem c4_1 : xCD 4 1 = some (.invokespecial 3, [1, 82, 1, 2]) := rfl
theorem c4_4 : xCD 4 4 = some (.aload_n 0, []) := rfl
theorem c4_5 : xCD 4 5 = some (.bipush 36, []) := rfl
theorem c4_7 : xCD 4 7 = some (.newarray .int, [0, 43]) := rfl
theorem c4_9 : xCD 4 9 = some (.putfield 9, [3, 0, 83]) := rfl
theorem c4_12 : xCD 4 12 = some (.aload_n 0, []) := rfl
theorem c4_13 : xCD 4 13 = some (.bipush 36, []) := rfl
theorem c4_15 : xCD 4 15 = some (.newarray .int, [0, 43]) := rfl
theorem c4_17 : xCD 4 17 = some (.putfield 15, [3, 1, 84]) := rfl
theorem c4_20 : xCD 4 20 = some (.aload_n 0, []) := rfl
theorem c4_21 : xCD 4 21 = some (.bipush 36, []) := rfl
theorem c4_23 : xCD 4 23 = some (.newarray .boolean, [2, 85]) := rfl
theorem c4_25 : xCD 4 25 = some (.putfield 18, [3, 2, 86]) := rfl
theorem c4_28 : xCD 4 28 = some (.return_, []) := rfl
theorem c5_0 : xCD 5 0 = some (.aload_n 0, []) := rfl
theorem c5_1 : xCD 5 1 = some (.invokespecial 3, [1, 87, 1, 2]) := rfl
theorem c5_4 : xCD 5 4 = some (.aload_n 0, []) := rfl
theorem c5_5 : xCD 5 5 = some (.bipush 8, []) := rfl
theorem c5_7 : xCD 5 7 = some (.anewarray 9, [3, 88]) := rfl
theorem c5_10 : xCD 5 10 = some (.putfield 11, [4, 0, 89]) := rfl
theorem c5_13 : xCD 5 13 = some (.aload_n 0, []) := rfl
theorem c5_14 : xCD 5 14 = some (.iconst 0, []) := rfl
theorem c5_15 : xCD 5 15 = some (.putfield 17, [4, 1, 90]) := rfl
theorem c5_18 : xCD 5 18 = some (.aload_n 0, []) := rfl
theorem c5_19 : xCD 5 19 = some (.iconst 0, []) := rfl
theorem c5_20 : xCD 5 20 = some (.putfield 21, [4, 2, 91]) := rfl
theorem c5_23 : xCD 5 23 = some (.return_, []) := rfl
theorem c6_0 : xCD 6 0 = some (.aload_n 0, []) := rfl
theorem c6_1 : xCD 6 1 = some (.invokespecial 3, [1, 92, 1, 2]) := rfl
theorem c6_4 : xCD 6 4 = some (.aload_n 0, []) := rfl
theorem c6_5 : xCD 6 5 = some (.bipush 36, []) := rfl
theorem c6_7 : xCD 6 7 = some (.newarray .int, [0, 43]) := rfl
theorem c6_9 : xCD 6 9 = some (.putfield 9, [5, 2, 93]) := rfl
theorem c6_12 : xCD 6 12 = some (.aload_n 0, []) := rfl
theorem c6_13 : xCD 6 13 = some (.iconst 0, []) := rfl
theorem c6_14 : xCD 6 14 = some (.putfield 15, [5, 3, 94]) := rfl
theorem c6_17 : xCD 6 17 = some (.aload_n 0, []) := rfl
theorem c6_18 : xCD 6 18 = some (.iconst 0, []) := rfl
theorem c6_19 : xCD 6 19 = some (.putfield 19, [5, 4, 95]) := rfl
theorem c6_22 : xCD 6 22 = some (.aload_n 0, []) := rfl
theorem c6_23 : xCD 6 23 = some (.iconst 0, []) := rfl
theorem c6_24 : xCD 6 24 = some (.putfield 22, [5, 5, 96]) := rfl
theorem c6_27 : xCD 6 27 = some (.aload_n 0, []) := rfl
theorem c6_28 : xCD 6 28 = some (.aload_n 1, []) := rfl
theorem c6_29 : xCD 6 29 = some (.putfield 25, [5, 0, 97]) := rfl
theorem c6_32 : xCD 6 32 = some (.aload_n 0, []) := rfl
theorem c6_33 : xCD 6 33 = some (.aload_n 2, []) := rfl
theorem c6_34 : xCD 6 34 = some (.putfield 29, [5, 1, 98]) := rfl
theorem c6_37 : xCD 6 37 = some (.return_, []) := rfl
theorem c7_0 : xCD 7 0 = some (.aload_n 0, []) := rfl
theorem c7_1 : xCD 7 1 = some (.invokespecial 3, [1, 99, 1, 2]) := rfl
theorem c7_4 : xCD 7 4 = some (.aload_n 0, []) := rfl
theorem c7_5 : xCD 7 5 = some (.iconst 3, []) := rfl
theorem c7_6 : xCD 7 6 = some (.newarray .int, [0, 43]) := rfl
theorem c7_8 : xCD 7 8 = some (.putfield 9, [6, 3, 100]) := rfl
theorem c7_11 : xCD 7 11 = some (.aload_n 0, []) := rfl
theorem c7_12 : xCD 7 12 = some (.iconst 3, []) := rfl
theorem c7_13 : xCD 7 13 = some (.newarray .int, [0, 43]) := rfl
theorem c7_15 : xCD 7 15 = some (.putfield 15, [6, 4, 101]) := rfl
theorem c7_18 : xCD 7 18 = some (.aload_n 0, []) := rfl
theorem c7_19 : xCD 7 19 = some (.iconst 0, []) := rfl
theorem c7_20 : xCD 7 20 = some (.putfield 18, [6, 5, 102]) := rfl
theorem c7_23 : xCD 7 23 = some (.aload_n 0, []) := rfl
theorem c7_24 : xCD 7 24 = some (.iconst 0, []) := rfl
theorem c7_25 : xCD 7 25 = some (.putfield 22, [6, 6, 103]) := rfl
theorem c7_28 : xCD 7 28 = some (.aload_n 0, []) := rfl
theorem c7_29 : xCD 7 29 = some (.iconst 0, []) := rfl
theorem c7_30 : xCD 7 30 = some (.putfield 25, [6, 7, 104]) := rfl
theorem c7_33 : xCD 7 33 = some (.aload_n 0, []) := rfl
theorem c7_34 : xCD 7 34 = some (.iconst 0, []) := rfl
theorem c7_35 : xCD 7 35 = some (.putfield 29, [6, 8, 105]) := rfl
theorem c7_38 : xCD 7 38 = some (.aload_n 0, []) := rfl
theorem c7_39 : xCD 7 39 = some (.aload_n 1, []) := rfl
theorem c7_40 : xCD 7 40 = some (.putfield 32, [6, 0, 106]) := rfl
theorem c7_43 : xCD 7 43 = some (.aload_n 0, []) := rfl
theorem c7_44 : xCD 7 44 = some (.aload_n 2, []) := rfl
theorem c7_45 : xCD 7 45 = some (.putfield 36, [6, 1, 107]) := rfl
theorem c7_48 : xCD 7 48 = some (.aload_n 0, []) := rfl
theorem c7_49 : xCD 7 49 = some (.aload_n 3, []) := rfl
theorem c7_50 : xCD 7 50 = some (.putfield 40, [6, 2, 108]) := rfl
theorem c7_53 : xCD 7 53 = some (.return_, []) := rfl
theorem c8_0 : xCD 8 0 = some (.aload_n 0, []) := rfl
theorem c8_1 : xCD 8 1 = some (.getfield 9, [0, 109]) := rfl
theorem c8_4 : xCD 8 4 = some (.arraylength, []) := rfl
theorem c8_5 : xCD 8 5 = some (.aload_n 0, []) := rfl
theorem c8_6 : xCD 8 6 = some (.invokevirtual 335, [9, 0, 0, 110, 112, 50, 111, 113]) := rfl
theorem c8_9 : xCD 8 9 = some (.ishr, []) := rfl
theorem c8_10 : xCD 8 10 = some (.ireturn, []) := rfl
theorem c9_0 : xCD 9 0 = some (.getstatic 38, [1, 114]) := rfl
theorem c9_3 : xCD 9 3 = some (.ifCond .eq 10, [13]) := rfl
theorem c9_6 : xCD 9 6 = some (.aload_n 0, []) := rfl
theorem c9_7 : xCD 9 7 = some (.getfield 15, [1, 115]) := rfl
theorem c9_10 : xCD 9 10 = some (.goto 4, [14]) := rfl
theorem c9_13 : xCD 9 13 = some (.iconst 1, []) := rfl
theorem c9_14 : xCD 9 14 = some (.ireturn, []) := rfl
theorem c10_0 : xCD 10 0 = some (.aload_n 0, []) := rfl
theorem c10_1 : xCD 10 1 = some (.invokevirtual 492, [11, 0, 0, 116, 118, 50, 117, 119]) := rfl
theorem c10_4 : xCD 10 4 = some (.ifCond .eq 12, [16]) := rfl
theorem c10_7 : xCD 10 7 = some (.aload_n 0, []) := rfl
theorem c10_8 : xCD 10 8 = some (.getfield 9, [0, 109]) := rfl
theorem c10_11 : xCD 10 11 = some (.iload_n 1, []) := rfl
theorem c10_12 : xCD 10 12 = some (.invokestatic 495, [12, 2, 0, 120, 123, 121, 122]) := rfl
theorem c10_15 : xCD 10 15 = some (.ireturn, []) := rfl
theorem c10_16 : xCD 10 16 = some (.aload_n 0, []) := rfl
theorem c10_17 : xCD 10 17 = some (.getfield 9, [0, 109]) := rfl
theorem c10_20 : xCD 10 20 = some (.iload_n 1, []) := rfl
theorem c10_21 : xCD 10 21 = some (.invokestatic 498, [15, 2, 0, 124, 127, 125, 126]) := rfl
theorem c10_24 : xCD 10 24 = some (.ireturn, []) := rfl
theorem c11_0 : xCD 11 0 = some (.getstatic 38, [1, 114]) := rfl
theorem c11_3 : xCD 11 3 = some (.ifCond .eq 14, [17]) := rfl
theorem c11_6 : xCD 11 6 = some (.aload_n 0, []) := rfl
theorem c11_7 : xCD 11 7 = some (.getfield 15, [1, 115]) := rfl
theorem c11_10 : xCD 11 10 = some (.ifCond .ne 7, [17]) := rfl
theorem c11_13 : xCD 11 13 = some (.iconst 1, []) := rfl
theorem c11_14 : xCD 11 14 = some (.goto 4, [18]) := rfl
theorem c11_17 : xCD 11 17 = some (.iconst 0, []) := rfl
theorem c11_18 : xCD 11 18 = some (.ireturn, []) := rfl
theorem c12_0 : xCD 12 0 = some (.iload_n 1, []) := rfl
theorem c12_1 : xCD 12 1 = some (.aload_n 0, []) := rfl
theorem c12_2 : xCD 12 2 = some (.arraylength, []) := rfl
theorem c12_3 : xCD 12 3 = some (.invokestatic 9, [13, 2, 0, 128, 130, 50, 129]) := rfl
theorem c12_6 : xCD 12 6 = some (.aload_n 0, []) := rfl
theorem c12_7 : xCD 12 7 = some (.iload_n 1, []) := rfl
theorem c12_8 : xCD 12 8 = some (.baload, []) := rfl
theorem c12_9 : xCD 12 9 = some (.sipush 255, []) := rfl
theorem c12_12 : xCD 12 12 = some (.iand, []) := rfl
theorem c12_13 : xCD 12 13 = some (.i2c, []) := rfl
theorem c12_14 : xCD 12 14 = some (.ireturn, []) := rfl
theorem c57_0 : xCD 57 0 = some (.aload_n 0, []) := rfl
theorem c57_1 : xCD 57 1 = some (.getfield 17, [4, 1, 90]) := rfl
theorem c57_4 : xCD 57 4 = some (.ifCond .lt 12, [16]) := rfl
theorem c57_7 : xCD 57 7 = some (.aload_n 0, []) := rfl
theorem c57_8 : xCD 57 8 = some (.getfield 17, [4, 1, 90]) := rfl
theorem c57_11 : xCD 57 11 = some (.bipush 8, []) := rfl
theorem c57_13 : xCD 57 13 = some (.if_icmp .lt 4, [17]) := rfl
theorem c57_16 : xCD 57 16 = some (.return_, []) := rfl
theorem c57_17 : xCD 57 17 = some (.aload_n 0, []) := rfl
theorem c57_18 : xCD 57 18 = some (.getfield 11, [4, 0, 89]) := rfl
theorem c57_21 : xCD 57 21 = some (.aload_n 0, []) := rfl
theorem c57_22 : xCD 57 22 = some (.getfield 17, [4, 1, 90]) := rfl
theorem c57_25 : xCD 57 25 = some (.aaload, []) := rfl
theorem c57_26 : xCD 57 26 = some (.ifnonnull 19, [45]) := rfl
theorem c57_29 : xCD 57 29 = some (.aload_n 0, []) := rfl
theorem c57_30 : xCD 57 30 = some (.getfield 11, [4, 0, 89]) := rfl
theorem c57_33 : xCD 57 33 = some (.aload_n 0, []) := rfl
theorem c57_34 : xCD 57 34 = some (.getfield 17, [4, 1, 90]) := rfl
theorem c57_37 : xCD 57 37 = some (.new 9, [3, 88, 16, 17]) := rfl
theorem c57_40 : xCD 57 40 = some (.dup, []) := rfl
theorem c57_41 : xCD 57 41 = some (.invokespecial 24, [4, 0, 1, 7, 19, 17, 18]) := rfl
theorem c57_44 : xCD 57 44 = some (.aastore, []) := rfl
theorem c57_45 : xCD 57 45 = some (.aload_n 0, []) := rfl
theorem c57_46 : xCD 57 46 = some (.getfield 11, [4, 0, 89]) := rfl
theorem c57_49 : xCD 57 49 = some (.aload_n 0, []) := rfl
theorem c57_50 : xCD 57 50 = some (.getfield 17, [4, 1, 90]) := rfl
theorem c57_53 : xCD 57 53 = some (.aaload, []) := rfl
theorem c57_54 : xCD 57 54 = some (.aload_n 1, []) := rfl
theorem c57_55 : xCD 57 55 = some (.invokevirtual 25, [34, 1, 0, 288, 153, 17, 152, 154]) := rfl
theorem c57_58 : xCD 57 58 = some (.aload_n 0, []) := rfl
theorem c57_59 : xCD 57 59 = some (.aload_n 0, []) := rfl
theorem c57_60 : xCD 57 60 = some (.getfield 17, [4, 1, 90]) := rfl
theorem c57_63 : xCD 57 63 = some (.iconst 1, []) := rfl
theorem c57_64 : xCD 57 64 = some (.iadd, []) := rfl
theorem c57_65 : xCD 57 65 = some (.bipush 8, []) := rfl
theorem c57_67 : xCD 57 67 = some (.if_icmp .ge 12, [79]) := rfl
theorem c57_70 : xCD 57 70 = some (.aload_n 0, []) := rfl
theorem c57_71 : xCD 57 71 = some (.getfield 17, [4, 1, 90]) := rfl
theorem c57_74 : xCD 57 74 = some (.iconst 1, []) := rfl
theorem c57_75 : xCD 57 75 = some (.iadd, []) := rfl
theorem c57_76 : xCD 57 76 = some (.goto 4, [80]) := rfl
theorem c57_79 : xCD 57 79 = some (.iconst 0, []) := rfl
theorem c57_80 : xCD 57 80 = some (.putfield 17, [4, 1, 90]) := rfl
theorem c57_83 : xCD 57 83 = some (.aload_n 0, []) := rfl
theorem c57_84 : xCD 57 84 = some (.getfield 21, [4, 2, 91]) := rfl
theorem c57_87 : xCD 57 87 = some (.bipush 8, []) := rfl
theorem c57_89 : xCD 57 89 = some (.if_icmp .ge 13, [102]) := rfl
theorem c57_92 : xCD 57 92 = some (.aload_n 0, []) := rfl
theorem c57_93 : xCD 57 93 = some (.dup, []) := rfl
theorem c57_94 : xCD 57 94 = some (.getfield 21, [4, 2, 91]) := rfl
theorem c57_97 : xCD 57 97 = some (.iconst 1, []) := rfl
theorem c57_98 : xCD 57 98 = some (.iadd, []) := rfl
theorem c57_99 : xCD 57 99 = some (.putfield 21, [4, 2, 91]) := rfl
theorem c57_102 : xCD 57 102 = some (.return_, []) := rfl
theorem c67_0 : xCD 67 0 = some (.aload_n 0, []) := rfl
theorem c67_1 : xCD 67 1 = some (.getfield 17, [4, 1, 90]) := rfl
theorem c67_4 : xCD 67 4 = some (.ifCond .le 21, [25]) := rfl
theorem c67_7 : xCD 67 7 = some (.aload_n 0, []) := rfl
theorem c67_8 : xCD 67 8 = some (.getfield 17, [4, 1, 90]) := rfl
theorem c67_11 : xCD 67 11 = some (.bipush 8, []) := rfl
theorem c67_13 : xCD 67 13 = some (.if_icmp .ge 12, [25]) := rfl
theorem c67_16 : xCD 67 16 = some (.aload_n 0, []) := rfl
theorem c67_17 : xCD 67 17 = some (.getfield 17, [4, 1, 90]) := rfl
theorem c67_20 : xCD 67 20 = some (.iconst 1, []) := rfl
theorem c67_21 : xCD 67 21 = some (.isub, []) := rfl
theorem c67_22 : xCD 67 22 = some (.goto 5, [27]) := rfl
theorem c67_25 : xCD 67 25 = some (.bipush 7, []) := rfl
theorem c67_27 : xCD 67 27 = some (.istore_n 2, []) := rfl
theorem c67_28 : xCD 67 28 = some (.aload_n 0, []) := rfl
theorem c67_29 : xCD 67 29 = some (.getfield 21, [4, 2, 91]) := rfl
theorem c67_32 : xCD 67 32 = some (.iconst 1, []) := rfl
theorem c67_33 : xCD 67 33 = some (.if_icmp .lt 12, [45]) := rfl
theorem c67_36 : xCD 67 36 = some (.aload_n 0, []) := rfl
theorem c67_37 : xCD 67 37 = some (.getfield 11, [4, 0, 89]) := rfl
theorem c67_40 : xCD 67 40 = some (.iload_n 2, []) := rfl
theorem c67_41 : xCD 67 41 = some (.aaload, []) := rfl
theorem c67_42 : xCD 67 42 = some (.ifnonnull 5, [47]) := rfl
theorem c67_45 : xCD 67 45 = some (.iconst 0, []) := rfl
theorem c67_46 : xCD 67 46 = some (.ireturn, []) := rfl
theorem c67_47 : xCD 67 47 = some (.aload_n 1, []) := rfl
theorem c67_48 : xCD 67 48 = some (.aload_n 0, []) := rfl
theorem c67_49 : xCD 67 49 = some (.getfield 11, [4, 0, 89]) := rfl
theorem c67_52 : xCD 67 52 = some (.iload_n 2, []) := rfl
theorem c67_53 : xCD 67 53 = some (.aaload, []) := rfl
theorem c67_54 : xCD 67 54 = some (.invokevirtual 25, [34, 1, 0, 288, 153, 17, 152, 154]) := rfl
theorem c67_57 : xCD 67 57 = some (.aload_n 0, []) := rfl
theorem c67_58 : xCD 67 58 = some (.iload_n 2, []) := rfl
theorem c67_59 : xCD 67 59 = some (.putfield 17, [4, 1, 90]) := rfl
theorem c67_62 : xCD 67 62 = some (.aload_n 0, []) := rfl
theorem c67_63 : xCD 67 63 = some (.dup, []) := rfl
theorem c67_64 : xCD 67 64 = some (.getfield 21, [4, 2, 91]) := rfl
theorem c67_67 : xCD 67 67 = some (.iconst 1, []) := rfl
theorem c67_68 : xCD 67 68 = some (.isub, []) := rfl
theorem c67_69 : xCD 67 69 = some (.putfield 21, [4, 2, 91]) := rfl
theorem c67_72 : xCD 67 72 = some (.iconst 1, []) := rfl
theorem c67_73 : xCD 67 73 = some (.ireturn, []) := rfl
theorem c102_0 : xCD 102 0 = some (.aload_n 0, []) := rfl
theorem c102_1 : xCD 102 1 = some (.invokespecial 1, [1, 393, 1, 2]) := rfl
theorem c102_4 : xCD 102 4 = some (.aload_n 0, []) := rfl
theorem c102_5 : xCD 102 5 = some (.bipush 81, []) := rfl
theorem c102_7 : xCD 102 7 = some (.newarray .int, [0, 43]) := rfl
theorem c102_9 : xCD 102 9 = some (.putfield 7, [7, 0, 394]) := rfl
theorem c102_12 : xCD 102 12 = some (.aload_n 0, []) := rfl
theorem c102_13 : xCD 102 13 = some (.bipush 81, []) := rfl
theorem c102_15 : xCD 102 15 = some (.newarray .int, [0, 43]) := rfl
theorem c102_17 : xCD 102 17 = some (.putfield 13, [7, 1, 395]) := rfl
theorem c102_20 : xCD 102 20 = some (.aload_n 0, []) := rfl
theorem c102_21 : xCD 102 21 = some (.bipush 111, []) := rfl
theorem c102_23 : xCD 102 23 = some (.newarray .int, [0, 43]) := rfl
theorem c102_25 : xCD 102 25 = some (.putfield 16, [7, 2, 396]) := rfl
theorem c102_28 : xCD 102 28 = some (.aload_n 0, []) := rfl
theorem c102_29 : xCD 102 29 = some (.bipush 111, []) := rfl
theorem c102_31 : xCD 102 31 = some (.newarray .int, [0, 43]) := rfl
theorem c102_33 : xCD 102 33 = some (.putfield 19, [7, 3, 397]) := rfl
theorem c102_36 : xCD 102 36 = some (.aload_n 0, []) := rfl
theorem c102_37 : xCD 102 37 = some (.sipush 888, []) := rfl
theorem c102_40 : xCD 102 40 = some (.newarray .int, [0, 43]) := rfl
theorem c102_42 : xCD 102 42 = some (.putfield 22, [7, 4, 398]) := rfl
theorem c102_45 : xCD 102 45 = some (.aload_n 0, []) := rfl
theorem c102_46 : xCD 102 46 = some (.sipush 222, []) := rfl
theorem c102_49 : xCD 102 49 = some (.newarray .int, [0, 43]) := rfl
theorem c102_51 : xCD 102 51 = some (.putfield 25, [7, 6, 399]) := rfl
theorem c102_54 : xCD 102 54 = some (.aload_n 0, []) := rfl
theorem c102_55 : xCD 102 55 = some (.sipush 200, []) := rfl
theorem c102_58 : xCD 102 58 = some (.newarray .int, [0, 43]) := rfl
theorem c102_60 : xCD 102 60 = some (.putfield 28, [7, 8, 400]) := rfl
theorem c102_63 : xCD 102 63 = some (.aload_n 0, []) := rfl
theorem c102_64 : xCD 102 64 = some (.bipush 12, []) := rfl
theorem c102_66 : xCD 102 66 = some (.newarray .int, [0, 43]) := rfl
theorem c102_68 : xCD 102 68 = some (.putfield 31, [7, 10, 401]) := rfl
theorem c102_71 : xCD 102 71 = some (.aload_n 0, []) := rfl
theorem c102_72 : xCD 102 72 = some (.iconst 4, []) := rfl
theorem c102_73 : xCD 102 73 = some (.newarray .int, [0, 43]) := rfl
theorem c102_75 : xCD 102 75 = some (.putfield 34, [7, 14, 402]) := rfl
theorem c102_78 : xCD 102 78 = some (.aload_n 0, []) := rfl
theorem c102_79 : xCD 102 79 = some (.iconst 3, []) := rfl
theorem c102_80 : xCD 102 80 = some (.newarray .int, [0, 43]) := rfl
theorem c102_82 : xCD 102 82 = some (.putfield 37, [7, 15, 403]) := rfl
theorem c102_85 : xCD 102 85 = some (.aload_n 0, []) := rfl
theorem c102_86 : xCD 102 86 = some (.iconst 3, []) := rfl
theorem c102_87 : xCD 102 87 = some (.newarray .int, [0, 43]) := rfl
theorem c102_89 : xCD 102 89 = some (.putfield 40, [7, 16, 404]) := rfl
theorem c102_92 : xCD 102 92 = some (.aload_n 0, []) := rfl
theorem c102_93 : xCD 102 93 = some (.invokevirtual 43, [103, 0, 0, 405, 408, 406, 407, 409]) := rfl
theorem c102_96 : xCD 102 96 = some (.aload_n 0, []) := rfl
theorem c102_97 : xCD 102 97 = some (.getfield 13, [7, 1, 395]) := rfl
theorem c102_100 : xCD 102 100 = some (.iconst 0, []) := rfl
theorem c102_101 : xCD 102 101 = some (.iconst 4, []) := rfl
theorem c102_102 : xCD 102 102 = some (.iastore, []) := rfl
theorem c102_103 : xCD 102 103 = some (.aload_n 0, []) := rfl
theorem c102_104 : xCD 102 104 = some (.getfield 13, [7, 1, 395]) := rfl
theorem c102_107 : xCD 102 107 = some (.iconst 1, []) := rfl
theorem c102_108 : xCD 102 108 = some (.iconst 5, []) := rfl
theorem c102_109 : xCD 102 109 = some (.iastore, []) := rfl
theorem c102_110 : xCD 102 110 = some (.aload_n 0, []) := rfl
theorem c102_111 : xCD 102 111 = some (.iconst 3, []) := rfl
theorem c102_112 : xCD 102 112 = some (.iconst 4, []) := rfl
theorem c102_113 : xCD 102 113 = some (.invokevirtual 46, [104, 2, 0, 410, 412, 406, 411, 413]) := rfl
theorem c102_116 : xCD 102 116 = some (.aload_n 0, []) := rfl
theorem c102_117 : xCD 102 117 = some (.bipush 8, []) := rfl
theorem c102_119 : xCD 102 119 = some (.iconst 1, []) := rfl
theorem c102_120 : xCD 102 120 = some (.invokevirtual 46, [104, 2, 0, 410, 412, 406, 411, 413]) := rfl
theorem c102_123 : xCD 102 123 = some (.aload_n 0, []) := rfl
theorem c102_124 : xCD 102 124 = some (.bipush 9, []) := rfl
theorem c102_126 : xCD 102 126 = some (.iconst 1, []) := rfl
theorem c102_127 : xCD 102 127 = some (.invokevirtual 46, [104, 2, 0, 410, 412, 406, 411, 413]) := rfl
theorem c102_130 : xCD 102 130 = some (.aload_n 0, []) := rfl
theorem c102_131 : xCD 102 131 = some (.bipush 12, []) := rfl
theorem c102_133 : xCD 102 133 = some (.iconst 5, []) := rfl
theorem c102_134 : xCD 102 134 = some (.invokevirtual 46, [104, 2, 0, 410, 412, 406, 411, 413]) := rfl
theorem c102_137 : xCD 102 137 = some (.aload_n 0, []) := rfl
theorem c102_138 : xCD 102 138 = some (.bipush 11, []) := rfl
theorem c102_140 : xCD 102 140 = some (.iconst 2, []) := rfl
theorem c102_141 : xCD 102 141 = some (.invokevirtual 46, [104, 2, 0, 410, 412, 406, 411, 413]) := rfl
theorem c102_144 : xCD 102 144 = some (.aload_n 0, []) := rfl
theorem c102_145 : xCD 102 145 = some (.bipush 13, []) := rfl
theorem c102_147 : xCD 102 147 = some (.bipush 7, []) := rfl
theorem c102_149 : xCD 102 149 = some (.invokevirtual 46, [104, 2, 0, 410, 412, 406, 411, 413]) := rfl
theorem c102_152 : xCD 102 152 = some (.aload_n 0, []) := rfl
theorem c102_153 : xCD 102 153 = some (.bipush 16, []) := rfl
theorem c102_155 : xCD 102 155 = some (.iconst 3, []) := rfl
theorem c102_156 : xCD 102 156 = some (.invokevirtual 46, [104, 2, 0, 410, 412, 406, 411, 413]) := rfl
theorem c102_159 : xCD 102 159 = some (.aload_n 0, []) := rfl
theorem c102_160 : xCD 102 160 = some (.bipush 18, []) := rfl
theorem c102_162 : xCD 102 162 = some (.iconst 1, []) := rfl
theorem c102_163 : xCD 102 163 = some (.invokevirtual 46, [104, 2, 0, 410, 412, 406, 411, 413]) := rfl
theorem c102_166 : xCD 102 166 = some (.aload_n 0, []) := rfl
theorem c102_167 : xCD 102 167 = some (.getfield 13, [7, 1, 395]) := rfl
theorem c102_170 : xCD 102 170 = some (.bipush 48, []) := rfl
theorem c102_172 : xCD 102 172 = some (.iconst 0, []) := rfl
theorem c102_173 : xCD 102 173 = some (.iastore, []) := rfl
theorem c102_174 : xCD 102 174 = some (.aload_n 0, []) := rfl
theorem c102_175 : xCD 102 175 = some (.getfield 13, [7, 1, 395]) := rfl
theorem c102_178 : xCD 102 178 = some (.bipush 47, []) := rfl
theorem c102_180 : xCD 102 180 = some (.iconst 4, []) := rfl
theorem c102_181 : xCD 102 181 = some (.iastore, []) := rfl
theorem c102_182 : xCD 102 182 = some (.aload_n 0, []) := rfl
theorem c102_183 : xCD 102 183 = some (.getfield 13, [7, 1, 395]) := rfl
theorem c102_186 : xCD 102 186 = some (.bipush 61, []) := rfl
theorem c102_188 : xCD 102 188 = some (.iconst 0, []) := rfl
theorem c102_189 : xCD 102 189 = some (.iastore, []) := rfl
theorem c102_190 : xCD 102 190 = some (.aload_n 0, []) := rfl
theorem c102_191 : xCD 102 191 = some (.getfield 13, [7, 1, 395]) := rfl
theorem c102_194 : xCD 102 194 = some (.bipush 62, []) := rfl
theorem c102_196 : xCD 102 196 = some (.iconst 3, []) := rfl
theorem c102_197 : xCD 102 197 = some (.iastore, []) := rfl
theorem c102_198 : xCD 102 198 = some (.aload_n 0, []) := rfl
theorem c102_199 : xCD 102 199 = some (.getfield 13, [7, 1, 395]) := rfl
theorem c102_202 : xCD 102 202 = some (.bipush 8, []) := rfl
theorem c102_204 : xCD 102 204 = some (.bipush 12, []) := rfl
theorem c102_206 : xCD 102 206 = some (.iastore, []) := rfl
theorem c102_207 : xCD 102 207 = some (.aload_n 0, []) := rfl
theorem c102_208 : xCD 102 208 = some (.getfield 13, [7, 1, 395]) := rfl
theorem c102_211 : xCD 102 211 = some (.bipush 7, []) := rfl
theorem c102_213 : xCD 102 213 = some (.iconst 2, []) := rfl
theorem c102_214 : xCD 102 214 = some (.iastore, []) := rfl
theorem c102_215 : xCD 102 215 = some (.aload_n 0, []) := rfl
theorem c102_216 : xCD 102 216 = some (.getfield 13, [7, 1, 395]) := rfl
theorem c102_219 : xCD 102 219 = some (.iconst 2, []) := rfl
theorem c102_220 : xCD 102 220 = some (.bipush 9, []) := rfl
theorem c102_222 : xCD 102 222 = some (.iastore, []) := rfl
theorem c102_223 : xCD 102 223 = some (.aload_n 0, []) := rfl
theorem c102_224 : xCD 102 224 = some (.getfield 13, [7, 1, 395]) := rfl
theorem c102_227 : xCD 102 227 = some (.iconst 3, []) := rfl
theorem c102_228 : xCD 102 228 = some (.iconst 3, []) := rfl
theorem c102_229 : xCD 102 229 = some (.iastore, []) := rfl
theorem c102_230 : xCD 102 230 = some (.aload_n 0, []) := rfl
theorem c102_231 : xCD 102 231 = some (.getfield 13, [7, 1, 395]) := rfl
theorem c102_234 : xCD 102 234 = some (.iconst 4, []) := rfl
theorem c102_235 : xCD 102 235 = some (.iconst 2, []) := rfl
theorem c102_236 : xCD 102 236 = some (.iastore, []) := rfl
theorem c102_237 : xCD 102 237 = some (.aload_n 0, []) := rfl
theorem c102_238 : xCD 102 238 = some (.getfield 13, [7, 1, 395]) := rfl
theorem c102_241 : xCD 102 241 = some (.iconst 5, []) := rfl
theorem c102_242 : xCD 102 242 = some (.iconst 4, []) := rfl
theorem c102_243 : xCD 102 243 = some (.iastore, []) := rfl
theorem c102_244 : xCD 102 244 = some (.aload_n 0, []) := rfl
theorem c102_245 : xCD 102 245 = some (.getfield 13, [7, 1, 395]) := rfl
theorem c102_248 : xCD 102 248 = some (.bipush 6, []) := rfl
theorem c102_250 : xCD 102 250 = some (.iconst 1, []) := rfl
theorem c102_251 : xCD 102 251 = some (.iastore, []) := rfl
theorem c102_252 : xCD 102 252 = some (.aload_n 0, []) := rfl
theorem c102_253 : xCD 102 253 = some (.invokevirtual 50, [105, 0, 0, 414, 416, 406, 415, 417]) := rfl
theorem c102_256 : xCD 102 256 = some (.return_, []) := rfl
set_option maxRecDepth 20000 in
theorem c171_0 : xCD 171 0 = some (.new 7, [0, 579, 580, 63]) := rfl
set_option maxRecDepth 20000 in
theorem c171_3 : xCD 171 3 = some (.dup, []) := rfl
set_option maxRecDepth 20000 in
theorem c171_4 : xCD 171 4 = some (.invokespecial 9, [0, 0, 0, 581, 583, 63, 582]) := rfl
set_option maxRecDepth 20000 in
theorem c171_7 : xCD 171 7 = some (.astore_n 1, []) := rfl
set_option maxRecDepth 20000 in
theorem c171_8 : xCD 171 8 = some (.new 10, [7, 584, 585, 406]) := rfl
set_option maxRecDepth 20000 in
theorem c171_11 : xCD 171 11 = some (.dup, []) := rfl
set_option maxRecDepth 20000 in
theorem c171_12 : xCD 171 12 = some (.invokespecial 12, [102, 0, 0, 586, 588, 406, 587]) := rfl
set_option maxRecDepth 20000 in
theorem c171_15 : xCD 171 15 = some (.astore_n 2, []) := rfl
set_option maxRecDepth 20000 in
theorem c171_16 : xCD 171 16 = some (.iconst 0, []) := rfl
set_option maxRecDepth 20000 in
theorem c171_17 : xCD 171 17 = some (.istore_n 3, []) := rfl
set_option maxRecDepth 20000 in
theorem c171_18 : xCD 171 18 = some (.iload_n 3, []) := rfl
set_option maxRecDepth 20000 in
theorem c171_19 : xCD 171 19 = some (.aload_n 0, []) := rfl
set_option maxRecDepth 20000 in
theorem c171_20 : xCD 171 20 = some (.arraylength, []) := rfl
set_option maxRecDepth 20000 in
theorem c171_21 : xCD 171 21 = some (.iconst 4, []) := rfl
set_option maxRecDepth 20000 in
theorem c171_22 : xCD 171 22 = some (.isub, []) := rfl
set_option maxRecDepth 20000 in
theorem c171_23 : xCD 171 23 = some (.if_icmp .gt 811, [834]) := rfl
set_option maxRecDepth 20000 in
theorem c171_26 : xCD 171 26 = some (.aload_n 0, []) := rfl
set_option maxRecDepth 20000 in
theorem c171_27 : xCD 171 27 = some (.iload_n 3, []) := rfl
set_option maxRecDepth 20000 in
theorem c171_28 : xCD 171 28 = some (.iaload, []) := rfl
set_option maxRecDepth 20000 in
theorem c171_29 : xCD 171 29 = some (.bipush 31, []) := rfl
set_option maxRecDepth 20000 in
theorem c171_31 : xCD 171 31 = some (.iand, []) := rfl
set_option maxRecDepth 20000 in
theorem c171_32 : xCD 171 32 = some (.tableswitch 796 0 29 #[136, 159, 172, 185, 198, 231, 254, 277, 310, 323, 346, 369, 392, 415, 428, 461, 474, 497, 520, 543, 576, 589, 612, 635, 658, 681, 704, 747, 760, 773], [828, 168, 191, 204, 217, 230, 263, 286, 309, 342, 355, 378, 401, 424, 447, 460, 493, 506, 529, 552, 575, 608, 621, 644, 667, 690, 713, 736, 779, 792, 805]) := rfl
set_option maxRecDepth 20000 in
theorem c171_168 : xCD 171 168 = some (.aload_n 1, []) := rfl
set_option maxRecDepth 20000 in
theorem c171_169 : xCD 171 169 = some (.aload_n 0, []) := rfl
set_option maxRecDepth 20000 in
theorem c171_170 : xCD 171 170 = some (.iload_n 3, []) := rfl
set_option maxRecDepth 20000 in
theorem c171_171 : xCD 171 171 = some (.iconst 1, []) := rfl
set_option maxRecDepth 20000 in
theorem c171_172 : xCD 171 172 = some (.iadd, []) := rfl
set_option maxRecDepth 20000 in
theorem c171_173 : xCD 171 173 = some (.iaload, []) := rfl
set_option maxRecDepth 20000 in
theorem c171_174 : xCD 171 174 = some (.invokevirtual 13, [37, 1, 0, 589, 591, 63, 590, 592]) := rfl
set_option maxRecDepth 20000 in
theorem c171_177 : xCD 171 177 = some (.aload_n 2, []) := rfl
set_option maxRecDepth 20000 in
theorem c171_178 : xCD 171 178 = some (.aload_n 0, []) := rfl
set_option maxRecDepth 20000 in
theorem c171_179 : xCD 171 179 = some (.iload_n 3, []) := rfl
set_option maxRecDepth 20000 in
theorem c171_180 : xCD 171 180 = some (.iconst 1, []) := rfl
set_option maxRecDepth 20000 in
theorem c171_181 : xCD 171 181 = some (.iadd, []) := rfl
set_option maxRecDepth 20000 in
theorem c171_182 : xCD 171 182 = some (.iaload, []) := rfl
set_option maxRecDepth 20000 in
theorem c171_183 : xCD 171 183 = some (.invokevirtual 17, [107, 1, 0, 593, 595, 406, 594, 596]) := rfl
set_option maxRecDepth 20000 in
theorem c171_186 : xCD 171 186 = some (.if_icmp .eq 642, [828]) := rfl
set_option maxRecDepth 20000 in
theorem c171_189 : xCD 171 189 = some (.iconst 0, []) := rfl
set_option maxRecDepth 20000 in
theorem c171_190 : xCD 171 190 = some (.ireturn, []) := rfl
set_option maxRecDepth 20000 in
theorem c171_191 : xCD 171 191 = some (.aload_n 1, []) := rfl
set_option maxRecDepth 20000 in
theorem c171_192 : xCD 171 192 = some (.invokevirtual 18, [38, 0, 0, 597, 599, 63, 598, 600]) := rfl
set_option maxRecDepth 20000 in
theorem c171_195 : xCD 171 195 = some (.aload_n 2, []) := rfl
set_option maxRecDepth 20000 in
theorem c171_196 : xCD 171 196 = some (.invokevirtual 22, [109, 0, 0, 601, 603, 406, 602, 604]) := rfl
set_option maxRecDepth 20000 in
theorem c171_199 : xCD 171 199 = some (.if_icmp .eq 629, [828]) := rfl
set_option maxRecDepth 20000 in
theorem c171_202 : xCD 171 202 = some (.iconst 0, []) := rfl
set_option maxRecDepth 20000 in
theorem c171_203 : xCD 171 203 = some (.ireturn, []) := rfl
set_option maxRecDepth 20000 in
theorem c171_204 : xCD 171 204 = some (.aload_n 1, []) := rfl
set_option maxRecDepth 20000 in
theorem c171_205 : xCD 171 205 = some (.invokevirtual 23, [39, 0, 0, 605, 607, 63, 606, 608]) := rfl
set_option maxRecDepth 20000 in
theorem c171_208 : xCD 171 208 = some (.aload_n 2, []) := rfl
set_option maxRecDepth 20000 in
theorem c171_209 : xCD 171 209 = some (.invokevirtual 26, [110, 0, 0, 609, 478, 406, 477, 479]) := rfl
set_option maxRecDepth 20000 in
theorem c171_212 : xCD 171 212 = some (.if_icmp .eq 616, [828]) := rfl
set_option maxRecDepth 20000 in
theorem c171_215 : xCD 171 215 = some (.iconst 0, []) := rfl
set_option maxRecDepth 20000 in
theorem c171_216 : xCD 171 216 = some (.ireturn, []) := rfl
set_option maxRecDepth 20000 in
theorem c171_217 : xCD 171 217 = some (.aload_n 1, []) := rfl
set_option maxRecDepth 20000 in
theorem c171_218 : xCD 171 218 = some (.invokevirtual 27, [40, 0, 0, 610, 612, 63, 611, 613]) := rfl
set_option maxRecDepth 20000 in
theorem c171_221 : xCD 171 221 = some (.aload_n 2, []) := rfl
set_option maxRecDepth 20000 in
theorem c171_222 : xCD 171 222 = some (.invokevirtual 30, [121, 0, 0, 614, 616, 406, 615, 617]) := rfl
set_option maxRecDepth 20000 in
theorem c171_225 : xCD 171 225 = some (.if_icmp .eq 603, [828]) := rfl
set_option maxRecDepth 20000 in
theorem c171_228 : xCD 171 228 = some (.iconst 0, []) := rfl
set_option maxRecDepth 20000 in
theorem c171_229 : xCD 171 229 = some (.ireturn, []) := rfl
set_option maxRecDepth 20000 in
theorem c171_230 : xCD 171 230 = some (.aload_n 1, []) := rfl
set_option maxRecDepth 20000 in
theorem c171_231 : xCD 171 231 = some (.aload_n 0, []) := rfl
set_option maxRecDepth 20000 in
theorem c171_232 : xCD 171 232 = some (.iload_n 3, []) := rfl
set_option maxRecDepth 20000 in
theorem c171_233 : xCD 171 233 = some (.iconst 1, []) := rfl
set_option maxRecDepth 20000 in
theorem c171_234 : xCD 171 234 = some (.iadd, []) := rfl
set_option maxRecDepth 20000 in
theorem c171_235 : xCD 171 235 = some (.iaload, []) := rfl
set_option maxRecDepth 20000 in
theorem c171_236 : xCD 171 236 = some (.aload_n 0, []) := rfl
set_option maxRecDepth 20000 in
theorem c171_237 : xCD 171 237 = some (.iload_n 3, []) := rfl
set_option maxRecDepth 20000 in
theorem c171_238 : xCD 171 238 = some (.iconst 2, []) := rfl
set_option maxRecDepth 20000 in
theorem c171_239 : xCD 171 239 = some (.iadd, []) := rfl
set_option maxRecDepth 20000 in
theorem c171_240 : xCD 171 240 = some (.iaload, []) := rfl
set_option maxRecDepth 20000 in
theorem c171_241 : xCD 171 241 = some (.invokevirtual 31, [41, 2, 0, 618, 620, 63, 619, 621]) := rfl
set_option maxRecDepth 20000 in
theorem c171_244 : xCD 171 244 = some (.aload_n 2, []) := rfl
set_option maxRecDepth 20000 in
theorem c171_245 : xCD 171 245 = some (.aload_n 0, []) := rfl
set_option maxRecDepth 20000 in
theorem c171_246 : xCD 171 246 = some (.iload_n 3, []) := rfl
set_option maxRecDepth 20000 in
theorem c171_247 : xCD 171 247 = some (.iconst 1, []) := rfl
set_option maxRecDepth 20000 in
theorem c171_248 : xCD 171 248 = some (.iadd, []) := rfl
set_option maxRecDepth 20000 in
theorem c171_249 : xCD 171 249 = some (.iaload, []) := rfl
set_option maxRecDepth 20000 in
theorem c171_250 : xCD 171 250 = some (.aload_n 0, []) := rfl
set_option maxRecDepth 20000 in
theorem c171_251 : xCD 171 251 = some (.iload_n 3, []) := rfl
set_option maxRecDepth 20000 in
theorem c171_252 : xCD 171 252 = some (.iconst 2, []) := rfl
set_option maxRecDepth 20000 in
theorem c171_253 : xCD 171 253 = some (.iadd, []) := rfl
set_option maxRecDepth 20000 in
theorem c171_254 : xCD 171 254 = some (.iaload, []) := rfl
set_option maxRecDepth 20000 in
theorem c171_255 : xCD 171 255 = some (.invokevirtual 35, [123, 2, 0, 622, 624, 406, 623, 625]) := rfl
set_option maxRecDepth 20000 in
theorem c171_258 : xCD 171 258 = some (.if_icmp .eq 570, [828]) := rfl
set_option maxRecDepth 20000 in
theorem c171_261 : xCD 171 261 = some (.iconst 0, []) := rfl
set_option maxRecDepth 20000 in
theorem c171_262 : xCD 171 262 = some (.ireturn, []) := rfl
set_option maxRecDepth 20000 in
theorem c171_263 : xCD 171 263 = some (.aload_n 1, []) := rfl
set_option maxRecDepth 20000 in
theorem c171_264 : xCD 171 264 = some (.aload_n 0, []) := rfl
set_option maxRecDepth 20000 in
theorem c171_265 : xCD 171 265 = some (.iload_n 3, []) := rfl
set_option maxRecDepth 20000 in
theorem c171_266 : xCD 171 266 = some (.iconst 1, []) := rfl
set_option maxRecDepth 20000 in
theorem c171_267 : xCD 171 267 = some (.iadd, []) := rfl
set_option maxRecDepth 20000 in
theorem c171_268 : xCD 171 268 = some (.iaload, []) := rfl
set_option maxRecDepth 20000 in
theorem c171_269 : xCD 171 269 = some (.invokevirtual 36, [50, 1, 0, 626, 628, 63, 627, 629]) := rfl
set_option maxRecDepth 20000 in
theorem c171_272 : xCD 171 272 = some (.aload_n 2, []) := rfl
set_option maxRecDepth 20000 in
theorem c171_273 : xCD 171 273 = some (.aload_n 0, []) := rfl
set_option maxRecDepth 20000 in
theorem c171_274 : xCD 171 274 = some (.iload_n 3, []) := rfl
set_option maxRecDepth 20000 in
theorem c171_275 : xCD 171 275 = some (.iconst 1, []) := rfl
set_option maxRecDepth 20000 in
theorem c171_276 : xCD 171 276 = some (.iadd, []) := rfl
set_option maxRecDepth 20000 in
theorem c171_277 : xCD 171 277 = some (.iaload, []) := rfl
set_option maxRecDepth 20000 in
theorem c171_278 : xCD 171 278 = some (.invokevirtual 39, [132, 1, 0, 630, 632, 406, 631, 633]) := rfl
set_option maxRecDepth 20000 in
theorem c171_281 : xCD 171 281 = some (.if_icmp .eq 547, [828]) := rfl
set_option maxRecDepth 20000 in
theorem c171_284 : xCD 171 284 = some (.iconst 0, []) := rfl
set_option maxRecDepth 20000 in
theorem c171_285 : xCD 171 285 = some (.ireturn, []) := rfl
set_option maxRecDepth 20000 in
theorem c171_286 : xCD 171 286 = some (.aload_n 1, []) := rfl
set_option maxRecDepth 20000 in
theorem c171_287 : xCD 171 287 = some (.aload_n 0, []) := rfl
set_option maxRecDepth 20000 in
theorem c171_288 : xCD 171 288 = some (.iload_n 3, []) := rfl
set_option maxRecDepth 20000 in
theorem c171_289 : xCD 171 289 = some (.iconst 1, []) := rfl
set_option maxRecDepth 20000 in
theorem c171_290 : xCD 171 290 = some (.iadd, []) := rfl
set_option maxRecDepth 20000 in
theorem c171_291 : xCD 171 291 = some (.iaload, []) := rfl
set_option maxRecDepth 20000 in
theorem c171_292 : xCD 171 292 = some (.invokevirtual 40, [56, 1, 0, 634, 636, 63, 635, 637]) := rfl
set_option maxRecDepth 20000 in
theorem c171_295 : xCD 171 295 = some (.aload_n 2, []) := rfl
set_option maxRecDepth 20000 in
theorem c171_296 : xCD 171 296 = some (.aload_n 0, []) := rfl
set_option maxRecDepth 20000 in
theorem c171_297 : xCD 171 297 = some (.iload_n 3, []) := rfl
set_option maxRecDepth 20000 in
theorem c171_298 : xCD 171 298 = some (.iconst 1, []) := rfl
set_option maxRecDepth 20000 in
theorem c171_299 : xCD 171 299 = some (.iadd, []) := rfl
set_option maxRecDepth 20000 in
theorem c171_300 : xCD 171 300 = some (.iaload, []) := rfl
set_option maxRecDepth 20000 in
theorem c171_301 : xCD 171 301 = some (.invokevirtual 43, [136, 1, 0, 638, 640, 406, 639, 641]) := rfl
set_option maxRecDepth 20000 in
theorem c171_304 : xCD 171 304 = some (.if_icmp .eq 524, [828]) := rfl
set_option maxRecDepth 20000 in
theorem c171_307 : xCD 171 307 = some (.iconst 0, []) := rfl
set_option maxRecDepth 20000 in
theorem c171_308 : xCD 171 308 = some (.ireturn, []) := rfl
set_option maxRecDepth 20000 in
theorem c171_309 : xCD 171 309 = some (.aload_n 1, []) := rfl
set_option maxRecDepth 20000 in
theorem c171_310 : xCD 171 310 = some (.aload_n 0, []) := rfl
set_option maxRecDepth 20000 in
theorem c171_311 : xCD 171 311 = some (.iload_n 3, []) := rfl
set_option maxRecDepth 20000 in
theorem c171_312 : xCD 171 312 = some (.iconst 1, []) := rfl
set_option maxRecDepth 20000 in
theorem c171_313 : xCD 171 313 = some (.iadd, []) := rfl
set_option maxRecDepth 20000 in
theorem c171_314 : xCD 171 314 = some (.iaload, []) := rfl
set_option maxRecDepth 20000 in
theorem c171_315 : xCD 171 315 = some (.aload_n 0, []) := rfl
set_option maxRecDepth 20000 in
theorem c171_316 : xCD 171 316 = some (.iload_n 3, []) := rfl
set_option maxRecDepth 20000 in
theorem c171_317 : xCD 171 317 = some (.iconst 2, []) := rfl
set_option maxRecDepth 20000 in
theorem c171_318 : xCD 171 318 = some (.iadd, []) := rfl
set_option maxRecDepth 20000 in
theorem c171_319 : xCD 171 319 = some (.iaload, []) := rfl
set_option maxRecDepth 20000 in
theorem c171_320 : xCD 171 320 = some (.invokevirtual 44, [58, 2, 0, 642, 644, 63, 643, 645]) := rfl
set_option maxRecDepth 20000 in
theorem c171_323 : xCD 171 323 = some (.aload_n 2, []) := rfl
set_option maxRecDepth 20000 in
theorem c171_324 : xCD 171 324 = some (.aload_n 0, []) := rfl
set_option maxRecDepth 20000 in
theorem c171_325 : xCD 171 325 = some (.iload_n 3, []) := rfl
set_option maxRecDepth 20000 in
theorem c171_326 : xCD 171 326 = some (.iconst 1, []) := rfl
set_option maxRecDepth 20000 in
theorem c171_327 : xCD 171 327 = some (.iadd, []) := rfl
set_option maxRecDepth 20000 in
theorem c171_328 : xCD 171 328 = some (.iaload, []) := rfl
set_option maxRecDepth 20000 in
theorem c171_329 : xCD 171 329 = some (.aload_n 0, []) := rfl
set_option maxRecDepth 20000 in
theorem c171_330 : xCD 171 330 = some (.iload_n 3, []) := rfl
set_option maxRecDepth 20000 in
theorem c171_331 : xCD 171 331 = some (.iconst 2, []) := rfl
set_option maxRecDepth 20000 in
theorem c171_332 : xCD 171 332 = some (.iadd, []) := rfl
set_option maxRecDepth 20000 in
theorem c171_333 : xCD 171 333 = some (.iaload, []) := rfl
set_option maxRecDepth 20000 in
theorem c171_334 : xCD 171 334 = some (.invokevirtual 47, [139, 2, 0, 646, 648, 406, 647, 649]) := rfl
set_option maxRecDepth 20000 in
theorem c171_337 : xCD 171 337 = some (.if_icmp .eq 491, [828]) := rfl
set_option maxRecDepth 20000 in
theorem c171_340 : xCD 171 340 = some (.iconst 0, []) := rfl
set_option maxRecDepth 20000 in
theorem c171_341 : xCD 171 341 = some (.ireturn, []) := rfl
set_option maxRecDepth 20000 in
theorem c171_342 : xCD 171 342 = some (.aload_n 1, []) := rfl
set_option maxRecDepth 20000 in
theorem c171_343 : xCD 171 343 = some (.invokevirtual 48, [59, 0, 0, 650, 652, 63, 651, 653]) := rfl
set_option maxRecDepth 20000 in
theorem c171_346 : xCD 171 346 = some (.aload_n 2, []) := rfl
set_option maxRecDepth 20000 in
theorem c171_347 : xCD 171 347 = some (.invokevirtual 51, [140, 0, 0, 654, 656, 406, 655, 657]) := rfl
set_option maxRecDepth 20000 in
theorem c171_350 : xCD 171 350 = some (.if_icmp .eq 478, [828]) := rfl
set_option maxRecDepth 20000 in
theorem c171_353 : xCD 171 353 = some (.iconst 0, []) := rfl
set_option maxRecDepth 20000 in
theorem c171_354 : xCD 171 354 = some (.ireturn, []) := rfl
set_option maxRecDepth 20000 in
theorem c171_355 : xCD 171 355 = some (.aload_n 1, []) := rfl
set_option maxRecDepth 20000 in
theorem c171_356 : xCD 171 356 = some (.aload_n 0, []) := rfl
set_option maxRecDepth 20000 in
theorem c171_357 : xCD 171 357 = some (.iload_n 3, []) := rfl
set_option maxRecDepth 20000 in
theorem c171_358 : xCD 171 358 = some (.iconst 1, []) := rfl
set_option maxRecDepth 20000 in
theorem c171_359 : xCD 171 359 = some (.iadd, []) := rfl
set_option maxRecDepth 20000 in
theorem c171_360 : xCD 171 360 = some (.iaload, []) := rfl
set_option maxRecDepth 20000 in
theorem c171_361 : xCD 171 361 = some (.invokevirtual 52, [61, 1, 0, 658, 660, 63, 659, 661]) := rfl
set_option maxRecDepth 20000 in
theorem c171_364 : xCD 171 364 = some (.aload_n 2, []) := rfl
set_option maxRecDepth 20000 in
theorem c171_365 : xCD 171 365 = some (.aload_n 0, []) := rfl
set_option maxRecDepth 20000 in
theorem c171_366 : xCD 171 366 = some (.iload_n 3, []) := rfl
set_option maxRecDepth 20000 in
theorem c171_367 : xCD 171 367 = some (.iconst 1, []) := rfl
set_option maxRecDepth 20000 in
theorem c171_368 : xCD 171 368 = some (.iadd, []) := rfl
set_option maxRecDepth 20000 in
theorem c171_369 : xCD 171 369 = some (.iaload, []) := rfl
set_option maxRecDepth 20000 in
theorem c171_370 : xCD 171 370 = some (.invokevirtual 55, [141, 1, 0, 662, 664, 406, 663, 665]) := rfl
set_option maxRecDepth 20000 in
theorem c171_373 : xCD 171 373 = some (.if_icmp .eq 455, [828]) := rfl
set_option maxRecDepth 20000 in
theorem c171_376 : xCD 171 376 = some (.iconst 0, []) := rfl
set_option maxRecDepth 20000 in
theorem c171_377 : xCD 171 377 = some (.ireturn, []) := rfl
set_option maxRecDepth 20000 in
theorem c171_378 : xCD 171 378 = some (.aload_n 1, []) := rfl
set_option maxRecDepth 20000 in
theorem c171_379 : xCD 171 379 = some (.aload_n 0, []) := rfl
set_option maxRecDepth 20000 in
theorem c171_380 : xCD 171 380 = some (.iload_n 3, []) := rfl
set_option maxRecDepth 20000 in
theorem c171_381 : xCD 171 381 = some (.iconst 1, []) := rfl
set_option maxRecDepth 20000 in
theorem c171_382 : xCD 171 382 = some (.iadd, []) := rfl
set_option maxRecDepth 20000 in
theorem c171_383 : xCD 171 383 = some (.iaload, []) := rfl
set_option maxRecDepth 20000 in
theorem c171_384 : xCD 171 384 = some (.invokevirtual 56, [62, 1, 0, 666, 668, 63, 667, 669]) := rfl
set_option maxRecDepth 20000 in
theorem c171_387 : xCD 171 387 = some (.aload_n 2, []) := rfl
set_option maxRecDepth 20000 in
theorem c171_388 : xCD 171 388 = some (.aload_n 0, []) := rfl
set_option maxRecDepth 20000 in
theorem c171_389 : xCD 171 389 = some (.iload_n 3, []) := rfl
set_option maxRecDepth 20000 in
theorem c171_390 : xCD 171 390 = some (.iconst 1, []) := rfl
set_option maxRecDepth 20000 in
theorem c171_391 : xCD 171 391 = some (.iadd, []) := rfl
set_option maxRecDepth 20000 in
theorem c171_392 : xCD 171 392 = some (.iaload, []) := rfl
set_option maxRecDepth 20000 in
theorem c171_393 : xCD 171 393 = some (.invokevirtual 59, [142, 1, 0, 670, 672, 406, 671, 673]) := rfl
set_option maxRecDepth 20000 in
theorem c171_396 : xCD 171 396 = some (.if_icmp .eq 432, [828]) := rfl
set_option maxRecDepth 20000 in
theorem c171_399 : xCD 171 399 = some (.iconst 0, []) := rfl
set_option maxRecDepth 20000 in
theorem c171_400 : xCD 171 400 = some (.ireturn, []) := rfl
set_option maxRecDepth 20000 in
theorem c171_401 : xCD 171 401 = some (.aload_n 1, []) := rfl
set_option maxRecDepth 20000 in
theorem c171_402 : xCD 171 402 = some (.aload_n 0, []) := rfl
set_option maxRecDepth 20000 in
theorem c171_403 : xCD 171 403 = some (.iload_n 3, []) := rfl
set_option maxRecDepth 20000 in
theorem c171_404 : xCD 171 404 = some (.iconst 1, []) := rfl
set_option maxRecDepth 20000 in
theorem c171_405 : xCD 171 405 = some (.iadd, []) := rfl
set_option maxRecDepth 20000 in
theorem c171_406 : xCD 171 406 = some (.iaload, []) := rfl
set_option maxRecDepth 20000 in
theorem c171_407 : xCD 171 407 = some (.invokevirtual 60, [63, 1, 0, 674, 676, 63, 675, 677]) := rfl
set_option maxRecDepth 20000 in
theorem c171_410 : xCD 171 410 = some (.aload_n 2, []) := rfl
set_option maxRecDepth 20000 in
theorem c171_411 : xCD 171 411 = some (.aload_n 0, []) := rfl
set_option maxRecDepth 20000 in
theorem c171_412 : xCD 171 412 = some (.iload_n 3, []) := rfl
set_option maxRecDepth 20000 in
theorem c171_413 : xCD 171 413 = some (.iconst 1, []) := rfl
set_option maxRecDepth 20000 in
theorem c171_414 : xCD 171 414 = some (.iadd, []) := rfl
set_option maxRecDepth 20000 in
theorem c171_415 : xCD 171 415 = some (.iaload, []) := rfl
set_option maxRecDepth 20000 in
theorem c171_416 : xCD 171 416 = some (.invokevirtual 63, [143, 1, 0, 678, 680, 406, 679, 681]) := rfl
set_option maxRecDepth 20000 in
theorem c171_419 : xCD 171 419 = some (.if_icmp .eq 409, [828]) := rfl
set_option maxRecDepth 20000 in
theorem c171_422 : xCD 171 422 = some (.iconst 0, []) := rfl
set_option maxRecDepth 20000 in
theorem c171_423 : xCD 171 423 = some (.ireturn, []) := rfl
set_option maxRecDepth 20000 in
theorem c171_424 : xCD 171 424 = some (.aload_n 1, []) := rfl
set_option maxRecDepth 20000 in
theorem c171_425 : xCD 171 425 = some (.aload_n 0, []) := rfl
set_option maxRecDepth 20000 in
theorem c171_426 : xCD 171 426 = some (.iload_n 3, []) := rfl
set_option maxRecDepth 20000 in
theorem c171_427 : xCD 171 427 = some (.iconst 1, []) := rfl
set_option maxRecDepth 20000 in
theorem c171_428 : xCD 171 428 = some (.iadd, []) := rfl
set_option maxRecDepth 20000 in
theorem c171_429 : xCD 171 429 = some (.iaload, []) := rfl
set_option maxRecDepth 20000 in
theorem c171_430 : xCD 171 430 = some (.invokevirtual 64, [64, 1, 0, 682, 684, 63, 683, 685]) := rfl
set_option maxRecDepth 20000 in
theorem c171_433 : xCD 171 433 = some (.aload_n 2, []) := rfl
set_option maxRecDepth 20000 in
theorem c171_434 : xCD 171 434 = some (.aload_n 0, []) := rfl
set_option maxRecDepth 20000 in
theorem c171_435 : xCD 171 435 = some (.iload_n 3, []) := rfl
set_option maxRecDepth 20000 in
theorem c171_436 : xCD 171 436 = some (.iconst 1, []) := rfl
set_option maxRecDepth 20000 in
theorem c171_437 : xCD 171 437 = some (.iadd, []) := rfl
set_option maxRecDepth 20000 in
theorem c171_438 : xCD 171 438 = some (.iaload, []) := rfl
set_option maxRecDepth 20000 in
theorem c171_439 : xCD 171 439 = some (.invokevirtual 67, [144, 1, 0, 686, 688, 406, 687, 689]) := rfl
set_option maxRecDepth 20000 in
theorem c171_442 : xCD 171 442 = some (.if_icmp .eq 386, [828]) := rfl
set_option maxRecDepth 20000 in
theorem c171_445 : xCD 171 445 = some (.iconst 0, []) := rfl
set_option maxRecDepth 20000 in
theorem c171_446 : xCD 171 446 = some (.ireturn, []) := rfl
set_option maxRecDepth 20000 in
theorem c171_447 : xCD 171 447 = some (.aload_n 1, []) := rfl
set_option maxRecDepth 20000 in
theorem c171_448 : xCD 171 448 = some (.invokevirtual 68, [66, 0, 0, 690, 692, 63, 691, 693]) := rfl
set_option maxRecDepth 20000 in
theorem c171_451 : xCD 171 451 = some (.aload_n 2, []) := rfl
set_option maxRecDepth 20000 in
theorem c171_452 : xCD 171 452 = some (.invokevirtual 71, [146, 0, 0, 694, 696, 406, 695, 697]) := rfl
set_option maxRecDepth 20000 in
theorem c171_455 : xCD 171 455 = some (.if_icmp .eq 373, [828]) := rfl
set_option maxRecDepth 20000 in
theorem c171_458 : xCD 171 458 = some (.iconst 0, []) := rfl
set_option maxRecDepth 20000 in
theorem c171_459 : xCD 171 459 = some (.ireturn, []) := rfl
set_option maxRecDepth 20000 in
theorem c171_460 : xCD 171 460 = some (.aload_n 1, []) := rfl
set_option maxRecDepth 20000 in
theorem c171_461 : xCD 171 461 = some (.aload_n 0, []) := rfl
set_option maxRecDepth 20000 in
theorem c171_462 : xCD 171 462 = some (.iload_n 3, []) := rfl
set_option maxRecDepth 20000 in
theorem c171_463 : xCD 171 463 = some (.iconst 1, []) := rfl
set_option maxRecDepth 20000 in
theorem c171_464 : xCD 171 464 = some (.iadd, []) := rfl
set_option maxRecDepth 20000 in
theorem c171_465 : xCD 171 465 = some (.iaload, []) := rfl
set_option maxRecDepth 20000 in
theorem c171_466 : xCD 171 466 = some (.aload_n 0, []) := rfl
set_option maxRecDepth 20000 in
theorem c171_467 : xCD 171 467 = some (.iload_n 3, []) := rfl
set_option maxRecDepth 20000 in
theorem c171_468 : xCD 171 468 = some (.iconst 2, []) := rfl
set_option maxRecDepth 20000 in
theorem c171_469 : xCD 171 469 = some (.iadd, []) := rfl
set_option maxRecDepth 20000 in
theorem c171_470 : xCD 171 470 = some (.iaload, []) := rfl
set_option maxRecDepth 20000 in
theorem c171_471 : xCD 171 471 = some (.invokevirtual 72, [68, 2, 0, 698, 700, 63, 699, 701]) := rfl
set_option maxRecDepth 20000 in
theorem c171_474 : xCD 171 474 = some (.aload_n 2, []) := rfl
set_option maxRecDepth 20000 in
theorem c171_475 : xCD 171 475 = some (.aload_n 0, []) := rfl
set_option maxRecDepth 20000 in
theorem c171_476 : xCD 171 476 = some (.iload_n 3, []) := rfl
set_option maxRecDepth 20000 in
theorem c171_477 : xCD 171 477 = some (.iconst 1, []) := rfl
set_option maxRecDepth 20000 in
theorem c171_478 : xCD 171 478 = some (.iadd, []) := rfl
set_option maxRecDepth 20000 in
theorem c171_479 : xCD 171 479 = some (.iaload, []) := rfl
set_option maxRecDepth 20000 in
theorem c171_480 : xCD 171 480 = some (.aload_n 0, []) := rfl
set_option maxRecDepth 20000 in
theorem c171_481 : xCD 171 481 = some (.iload_n 3, []) := rfl
set_option maxRecDepth 20000 in
theorem c171_482 : xCD 171 482 = some (.iconst 2, []) := rfl
set_option maxRecDepth 20000 in
theorem c171_483 : xCD 171 483 = some (.iadd, []) := rfl
set_option maxRecDepth 20000 in
theorem c171_484 : xCD 171 484 = some (.iaload, []) := rfl
set_option maxRecDepth 20000 in
theorem c171_485 : xCD 171 485 = some (.invokevirtual 75, [147, 2, 0, 702, 704, 406, 703, 705]) := rfl
set_option maxRecDepth 20000 in
theorem c171_488 : xCD 171 488 = some (.if_icmp .eq 340, [828]) := rfl
set_option maxRecDepth 20000 in
theorem c171_491 : xCD 171 491 = some (.iconst 0, []) := rfl
set_option maxRecDepth 20000 in
theorem c171_492 : xCD 171 492 = some (.ireturn, []) := rfl
set_option maxRecDepth 20000 in
theorem c171_493 : xCD 171 493 = some (.aload_n 1, []) := rfl
set_option maxRecDepth 20000 in
theorem c171_494 : xCD 171 494 = some (.invokevirtual 76, [70, 0, 0, 706, 708, 63, 707, 709]) := rfl
set_option maxRecDepth 20000 in
theorem c171_497 : xCD 171 497 = some (.aload_n 2, []) := rfl
set_option maxRecDepth 20000 in
theorem c171_498 : xCD 171 498 = some (.invokevirtual 79, [150, 0, 0, 710, 712, 406, 711, 713]) := rfl
set_option maxRecDepth 20000 in
theorem c171_501 : xCD 171 501 = some (.if_icmp .eq 327, [828]) := rfl
set_option maxRecDepth 20000 in
theorem c171_504 : xCD 171 504 = some (.iconst 0, []) := rfl
set_option maxRecDepth 20000 in
theorem c171_505 : xCD 171 505 = some (.ireturn, []) := rfl
set_option maxRecDepth 20000 in
theorem c171_506 : xCD 171 506 = some (.aload_n 1, []) := rfl
set_option maxRecDepth 20000 in
theorem c171_507 : xCD 171 507 = some (.aload_n 0, []) := rfl
set_option maxRecDepth 20000 in
theorem c171_508 : xCD 171 508 = some (.iload_n 3, []) := rfl
set_option maxRecDepth 20000 in
theorem c171_509 : xCD 171 509 = some (.iconst 1, []) := rfl
set_option maxRecDepth 20000 in
theorem c171_510 : xCD 171 510 = some (.iadd, []) := rfl
set_option maxRecDepth 20000 in
theorem c171_511 : xCD 171 511 = some (.iaload, []) := rfl
set_option maxRecDepth 20000 in
theorem c171_512 : xCD 171 512 = some (.invokevirtual 80, [71, 1, 0, 714, 716, 63, 715, 717]) := rfl
set_option maxRecDepth 20000 in
theorem c171_515 : xCD 171 515 = some (.aload_n 2, []) := rfl
set_option maxRecDepth 20000 in
theorem c171_516 : xCD 171 516 = some (.aload_n 0, []) := rfl
set_option maxRecDepth 20000 in
theorem c171_517 : xCD 171 517 = some (.iload_n 3, []) := rfl
set_option maxRecDepth 20000 in
theorem c171_518 : xCD 171 518 = some (.iconst 1, []) := rfl
set_option maxRecDepth 20000 in
theorem c171_519 : xCD 171 519 = some (.iadd, []) := rfl
set_option maxRecDepth 20000 in
theorem c171_520 : xCD 171 520 = some (.iaload, []) := rfl
set_option maxRecDepth 20000 in
theorem c171_521 : xCD 171 521 = some (.invokevirtual 83, [151, 1, 0, 718, 720, 406, 719, 721]) := rfl
set_option maxRecDepth 20000 in
theorem c171_524 : xCD 171 524 = some (.if_icmp .eq 304, [828]) := rfl
set_option maxRecDepth 20000 in
theorem c171_527 : xCD 171 527 = some (.iconst 0, []) := rfl
set_option maxRecDepth 20000 in
theorem c171_528 : xCD 171 528 = some (.ireturn, []) := rfl
set_option maxRecDepth 20000 in
theorem c171_529 : xCD 171 529 = some (.aload_n 1, []) := rfl
set_option maxRecDepth 20000 in
theorem c171_530 : xCD 171 530 = some (.aload_n 0, []) := rfl
set_option maxRecDepth 20000 in
theorem c171_531 : xCD 171 531 = some (.iload_n 3, []) := rfl
set_option maxRecDepth 20000 in
theorem c171_532 : xCD 171 532 = some (.iconst 1, []) := rfl
set_option maxRecDepth 20000 in
theorem c171_533 : xCD 171 533 = some (.iadd, []) := rfl
set_option maxRecDepth 20000 in
theorem c171_534 : xCD 171 534 = some (.iaload, []) := rfl
set_option maxRecDepth 20000 in
theorem c171_535 : xCD 171 535 = some (.invokevirtual 84, [80, 1, 0, 722, 724, 63, 723, 725]) := rfl
set_option maxRecDepth 20000 in
theorem c171_538 : xCD 171 538 = some (.aload_n 2, []) := rfl
set_option maxRecDepth 20000 in
theorem c171_539 : xCD 171 539 = some (.aload_n 0, []) := rfl
set_option maxRecDepth 20000 in
theorem c171_540 : xCD 171 540 = some (.iload_n 3, []) := rfl
set_option maxRecDepth 20000 in
theorem c171_541 : xCD 171 541 = some (.iconst 1, []) := rfl
set_option maxRecDepth 20000 in
theorem c171_542 : xCD 171 542 = some (.iadd, []) := rfl
set_option maxRecDepth 20000 in
theorem c171_543 : xCD 171 543 = some (.iaload, []) := rfl
set_option maxRecDepth 20000 in
theorem c171_544 : xCD 171 544 = some (.invokevirtual 87, [155, 1, 0, 726, 728, 406, 727, 729]) := rfl
set_option maxRecDepth 20000 in
theorem c171_547 : xCD 171 547 = some (.if_icmp .eq 281, [828]) := rfl
set_option maxRecDepth 20000 in
theorem c171_550 : xCD 171 550 = some (.iconst 0, []) := rfl
set_option maxRecDepth 20000 in
theorem c171_551 : xCD 171 551 = some (.ireturn, []) := rfl
set_option maxRecDepth 20000 in
theorem c171_552 : xCD 171 552 = some (.aload_n 1, []) := rfl
set_option maxRecDepth 20000 in
theorem c171_553 : xCD 171 553 = some (.aload_n 0, []) := rfl
set_option maxRecDepth 20000 in
theorem c171_554 : xCD 171 554 = some (.iload_n 3, []) := rfl
set_option maxRecDepth 20000 in
theorem c171_555 : xCD 171 555 = some (.iconst 1, []) := rfl
set_option maxRecDepth 20000 in
theorem c171_556 : xCD 171 556 = some (.iadd, []) := rfl
set_option maxRecDepth 20000 in
theorem c171_557 : xCD 171 557 = some (.iaload, []) := rfl
set_option maxRecDepth 20000 in
theorem c171_558 : xCD 171 558 = some (.invokevirtual 88, [82, 1, 0, 730, 732, 63, 731, 733]) := rfl
set_option maxRecDepth 20000 in
theorem c171_561 : xCD 171 561 = some (.aload_n 2, []) := rfl
set_option maxRecDepth 20000 in
theorem c171_562 : xCD 171 562 = some (.aload_n 0, []) := rfl
set_option maxRecDepth 20000 in
theorem c171_563 : xCD 171 563 = some (.iload_n 3, []) := rfl
set_option maxRecDepth 20000 in
theorem c171_564 : xCD 171 564 = some (.iconst 1, []) := rfl
set_option maxRecDepth 20000 in
theorem c171_565 : xCD 171 565 = some (.iadd, []) := rfl
set_option maxRecDepth 20000 in
theorem c171_566 : xCD 171 566 = some (.iaload, []) := rfl
set_option maxRecDepth 20000 in
theorem c171_567 : xCD 171 567 = some (.invokevirtual 91, [156, 1, 0, 734, 736, 406, 735, 737]) := rfl
set_option maxRecDepth 20000 in
theorem c171_570 : xCD 171 570 = some (.if_icmp .eq 258, [828]) := rfl
set_option maxRecDepth 20000 in
theorem c171_573 : xCD 171 573 = some (.iconst 0, []) := rfl
set_option maxRecDepth 20000 in
theorem c171_574 : xCD 171 574 = some (.ireturn, []) := rfl
set_option maxRecDepth 20000 in
theorem c171_575 : xCD 171 575 = some (.aload_n 1, []) := rfl
set_option maxRecDepth 20000 in
theorem c171_576 : xCD 171 576 = some (.aload_n 0, []) := rfl
set_option maxRecDepth 20000 in
theorem c171_577 : xCD 171 577 = some (.iload_n 3, []) := rfl
set_option maxRecDepth 20000 in
theorem c171_578 : xCD 171 578 = some (.iconst 1, []) := rfl
set_option maxRecDepth 20000 in
theorem c171_579 : xCD 171 579 = some (.iadd, []) := rfl
set_option maxRecDepth 20000 in
theorem c171_580 : xCD 171 580 = some (.iaload, []) := rfl
set_option maxRecDepth 20000 in
theorem c171_581 : xCD 171 581 = some (.aload_n 0, []) := rfl
set_option maxRecDepth 20000 in
theorem c171_582 : xCD 171 582 = some (.iload_n 3, []) := rfl
set_option maxRecDepth 20000 in
theorem c171_583 : xCD 171 583 = some (.iconst 2, []) := rfl
set_option maxRecDepth 20000 in
theorem c171_584 : xCD 171 584 = some (.iadd, []) := rfl
set_option maxRecDepth 20000 in
theorem c171_585 : xCD 171 585 = some (.iaload, []) := rfl
set_option maxRecDepth 20000 in
theorem c171_586 : xCD 171 586 = some (.invokevirtual 92, [83, 2, 0, 738, 740, 63, 739, 741]) := rfl
set_option maxRecDepth 20000 in
theorem c171_589 : xCD 171 589 = some (.aload_n 2, []) := rfl
set_option maxRecDepth 20000 in
theorem c171_590 : xCD 171 590 = some (.aload_n 0, []) := rfl
set_option maxRecDepth 20000 in
theorem c171_591 : xCD 171 591 = some (.iload_n 3, []) := rfl
set_option maxRecDepth 20000 in
theorem c171_592 : xCD 171 592 = some (.iconst 1, []) := rfl
set_option maxRecDepth 20000 in
theorem c171_593 : xCD 171 593 = some (.iadd, []) := rfl
set_option maxRecDepth 20000 in
theorem c171_594 : xCD 171 594 = some (.iaload, []) := rfl
set_option maxRecDepth 20000 in
theorem c171_595 : xCD 171 595 = some (.aload_n 0, []) := rfl
set_option maxRecDepth 20000 in
theorem c171_596 : xCD 171 596 = some (.iload_n 3, []) := rfl
set_option maxRecDepth 20000 in
theorem c171_597 : xCD 171 597 = some (.iconst 2, []) := rfl
set_option maxRecDepth 20000 in
theorem c171_598 : xCD 171 598 = some (.iadd, []) := rfl
set_option maxRecDepth 20000 in
theorem c171_599 : xCD 171 599 = some (.iaload, []) := rfl
set_option maxRecDepth 20000 in
theorem c171_600 : xCD 171 600 = some (.invokevirtual 95, [157, 2, 0, 742, 744, 406, 743, 745]) := rfl
set_option maxRecDepth 20000 in
theorem c171_603 : xCD 171 603 = some (.if_icmp .eq 225, [828]) := rfl
set_option maxRecDepth 20000 in
theorem c171_606 : xCD 171 606 = some (.iconst 0, []) := rfl
set_option maxRecDepth 20000 in
theorem c171_607 : xCD 171 607 = some (.ireturn, []) := rfl
set_option maxRecDepth 20000 in
theorem c171_608 : xCD 171 608 = some (.aload_n 1, []) := rfl
set_option maxRecDepth 20000 in
theorem c171_609 : xCD 171 609 = some (.invokevirtual 96, [84, 0, 0, 746, 748, 63, 747, 749]) := rfl
set_option maxRecDepth 20000 in
theorem c171_612 : xCD 171 612 = some (.aload_n 2, []) := rfl
set_option maxRecDepth 20000 in
theorem c171_613 : xCD 171 613 = some (.invokevirtual 99, [158, 0, 0, 750, 752, 406, 751, 753]) := rfl
set_option maxRecDepth 20000 in
theorem c171_616 : xCD 171 616 = some (.if_icmp .eq 212, [828]) := rfl
set_option maxRecDepth 20000 in
theorem c171_619 : xCD 171 619 = some (.iconst 0, []) := rfl
set_option maxRecDepth 20000 in
theorem c171_620 : xCD 171 620 = some (.ireturn, []) := rfl
set_option maxRecDepth 20000 in
theorem c171_621 : xCD 171 621 = some (.aload_n 1, []) := rfl
set_option maxRecDepth 20000 in
theorem c171_622 : xCD 171 622 = some (.aload_n 0, []) := rfl
set_option maxRecDepth 20000 in
theorem c171_623 : xCD 171 623 = some (.iload_n 3, []) := rfl
set_option maxRecDepth 20000 in
theorem c171_624 : xCD 171 624 = some (.iconst 1, []) := rfl
set_option maxRecDepth 20000 in
theorem c171_625 : xCD 171 625 = some (.iadd, []) := rfl
set_option maxRecDepth 20000 in
theorem c171_626 : xCD 171 626 = some (.iaload, []) := rfl
set_option maxRecDepth 20000 in
theorem c171_627 : xCD 171 627 = some (.invokevirtual 100, [85, 1, 0, 754, 756, 63, 755, 757]) := rfl
set_option maxRecDepth 20000 in
theorem c171_630 : xCD 171 630 = some (.aload_n 2, []) := rfl
set_option maxRecDepth 20000 in
theorem c171_631 : xCD 171 631 = some (.aload_n 0, []) := rfl
set_option maxRecDepth 20000 in
theorem c171_632 : xCD 171 632 = some (.iload_n 3, []) := rfl
set_option maxRecDepth 20000 in
theorem c171_633 : xCD 171 633 = some (.iconst 1, []) := rfl
set_option maxRecDepth 20000 in
theorem c171_634 : xCD 171 634 = some (.iadd, []) := rfl
set_option maxRecDepth 20000 in
theorem c171_635 : xCD 171 635 = some (.iaload, []) := rfl
set_option maxRecDepth 20000 in
theorem c171_636 : xCD 171 636 = some (.invokevirtual 103, [159, 1, 0, 758, 760, 406, 759, 761]) := rfl
set_option maxRecDepth 20000 in
theorem c171_639 : xCD 171 639 = some (.if_icmp .eq 189, [828]) := rfl
set_option maxRecDepth 20000 in
theorem c171_642 : xCD 171 642 = some (.iconst 0, []) := rfl
set_option maxRecDepth 20000 in
theorem c171_643 : xCD 171 643 = some (.ireturn, []) := rfl
set_option maxRecDepth 20000 in
theorem c171_644 : xCD 171 644 = some (.aload_n 1, []) := rfl
set_option maxRecDepth 20000 in
theorem c171_645 : xCD 171 645 = some (.aload_n 0, []) := rfl
set_option maxRecDepth 20000 in
theorem c171_646 : xCD 171 646 = some (.iload_n 3, []) := rfl
set_option maxRecDepth 20000 in
theorem c171_647 : xCD 171 647 = some (.iconst 1, []) := rfl
set_option maxRecDepth 20000 in
theorem c171_648 : xCD 171 648 = some (.iadd, []) := rfl
set_option maxRecDepth 20000 in
theorem c171_649 : xCD 171 649 = some (.iaload, []) := rfl
set_option maxRecDepth 20000 in
theorem c171_650 : xCD 171 650 = some (.invokevirtual 104, [89, 1, 0, 762, 764, 63, 763, 765]) := rfl
set_option maxRecDepth 20000 in
theorem c171_653 : xCD 171 653 = some (.aload_n 2, []) := rfl
set_option maxRecDepth 20000 in
theorem c171_654 : xCD 171 654 = some (.aload_n 0, []) := rfl
set_option maxRecDepth 20000 in
theorem c171_655 : xCD 171 655 = some (.iload_n 3, []) := rfl
set_option maxRecDepth 20000 in
theorem c171_656 : xCD 171 656 = some (.iconst 1, []) := rfl
set_option maxRecDepth 20000 in
theorem c171_657 : xCD 171 657 = some (.iadd, []) := rfl
set_option maxRecDepth 20000 in
theorem c171_658 : xCD 171 658 = some (.iaload, []) := rfl
set_option maxRecDepth 20000 in
theorem c171_659 : xCD 171 659 = some (.invokevirtual 107, [162, 1, 0, 766, 768, 406, 767, 769]) := rfl
set_option maxRecDepth 20000 in
theorem c171_662 : xCD 171 662 = some (.if_icmp .eq 166, [828]) := rfl
set_option maxRecDepth 20000 in
theorem c171_665 : xCD 171 665 = some (.iconst 0, []) := rfl
set_option maxRecDepth 20000 in
theorem c171_666 : xCD 171 666 = some (.ireturn, []) := rfl
set_option maxRecDepth 20000 in
theorem c171_667 : xCD 171 667 = some (.aload_n 1, []) := rfl
set_option maxRecDepth 20000 in
theorem c171_668 : xCD 171 668 = some (.aload_n 0, []) := rfl
set_option maxRecDepth 20000 in
theorem c171_669 : xCD 171 669 = some (.iload_n 3, []) := rfl
set_option maxRecDepth 20000 in
theorem c171_670 : xCD 171 670 = some (.iconst 1, []) := rfl
set_option maxRecDepth 20000 in
theorem c171_671 : xCD 171 671 = some (.iadd, []) := rfl
set_option maxRecDepth 20000 in
theorem c171_672 : xCD 171 672 = some (.iaload, []) := rfl
set_option maxRecDepth 20000 in
theorem c171_673 : xCD 171 673 = some (.invokevirtual 108, [90, 1, 0, 770, 772, 63, 771, 773]) := rfl
set_option maxRecDepth 20000 in
theorem c171_676 : xCD 171 676 = some (.aload_n 2, []) := rfl
set_option maxRecDepth 20000 in
theorem c171_677 : xCD 171 677 = some (.aload_n 0, []) := rfl
set_option maxRecDepth 20000 in
theorem c171_678 : xCD 171 678 = some (.iload_n 3, []) := rfl
set_option maxRecDepth 20000 in
theorem c171_679 : xCD 171 679 = some (.iconst 1, []) := rfl
set_option maxRecDepth 20000 in
theorem c171_680 : xCD 171 680 = some (.iadd, []) := rfl
set_option maxRecDepth 20000 in
theorem c171_681 : xCD 171 681 = some (.iaload, []) := rfl
set_option maxRecDepth 20000 in
theorem c171_682 : xCD 171 682 = some (.invokevirtual 111, [163, 1, 0, 774, 776, 406, 775, 777]) := rfl
set_option maxRecDepth 20000 in
theorem c171_685 : xCD 171 685 = some (.if_icmp .eq 143, [828]) := rfl
set_option maxRecDepth 20000 in
theorem c171_688 : xCD 171 688 = some (.iconst 0, []) := rfl
set_option maxRecDepth 20000 in
theorem c171_689 : xCD 171 689 = some (.ireturn, []) := rfl
set_option maxRecDepth 20000 in
theorem c171_690 : xCD 171 690 = some (.aload_n 1, []) := rfl
set_option maxRecDepth 20000 in
theorem c171_691 : xCD 171 691 = some (.aload_n 0, []) := rfl
set_option maxRecDepth 20000 in
theorem c171_692 : xCD 171 692 = some (.iload_n 3, []) := rfl
set_option maxRecDepth 20000 in
theorem c171_693 : xCD 171 693 = some (.iconst 1, []) := rfl
set_option maxRecDepth 20000 in
theorem c171_694 : xCD 171 694 = some (.iadd, []) := rfl
set_option maxRecDepth 20000 in
theorem c171_695 : xCD 171 695 = some (.iaload, []) := rfl
set_option maxRecDepth 20000 in
theorem c171_696 : xCD 171 696 = some (.invokevirtual 112, [91, 1, 0, 778, 780, 63, 779, 781]) := rfl
set_option maxRecDepth 20000 in
theorem c171_699 : xCD 171 699 = some (.aload_n 2, []) := rfl
set_option maxRecDepth 20000 in
theorem c171_700 : xCD 171 700 = some (.aload_n 0, []) := rfl
set_option maxRecDepth 20000 in
theorem c171_701 : xCD 171 701 = some (.iload_n 3, []) := rfl
set_option maxRecDepth 20000 in
theorem c171_702 : xCD 171 702 = some (.iconst 1, []) := rfl
set_option maxRecDepth 20000 in
theorem c171_703 : xCD 171 703 = some (.iadd, []) := rfl
set_option maxRecDepth 20000 in
theorem c171_704 : xCD 171 704 = some (.iaload, []) := rfl
set_option maxRecDepth 20000 in
theorem c171_705 : xCD 171 705 = some (.invokevirtual 115, [164, 1, 0, 782, 784, 406, 783, 785]) := rfl
set_option maxRecDepth 20000 in
theorem c171_708 : xCD 171 708 = some (.if_icmp .eq 120, [828]) := rfl
set_option maxRecDepth 20000 in
theorem c171_711 : xCD 171 711 = some (.iconst 0, []) := rfl
set_option maxRecDepth 20000 in
theorem c171_712 : xCD 171 712 = some (.ireturn, []) := rfl
set_option maxRecDepth 20000 in
theorem c171_713 : xCD 171 713 = some (.aload_n 1, []) := rfl
set_option maxRecDepth 20000 in
theorem c171_714 : xCD 171 714 = some (.aload_n 0, []) := rfl
set_option maxRecDepth 20000 in
theorem c171_715 : xCD 171 715 = some (.iload_n 3, []) := rfl
set_option maxRecDepth 20000 in
theorem c171_716 : xCD 171 716 = some (.iconst 1, []) := rfl
set_option maxRecDepth 20000 in
theorem c171_717 : xCD 171 717 = some (.iadd, []) := rfl
set_option maxRecDepth 20000 in
theorem c171_718 : xCD 171 718 = some (.iaload, []) := rfl
set_option maxRecDepth 20000 in
theorem c171_719 : xCD 171 719 = some (.invokevirtual 116, [93, 1, 0, 786, 788, 63, 787, 789]) := rfl
set_option maxRecDepth 20000 in
theorem c171_722 : xCD 171 722 = some (.aload_n 2, []) := rfl
set_option maxRecDepth 20000 in
theorem c171_723 : xCD 171 723 = some (.aload_n 0, []) := rfl
set_option maxRecDepth 20000 in
theorem c171_724 : xCD 171 724 = some (.iload_n 3, []) := rfl
set_option maxRecDepth 20000 in
theorem c171_725 : xCD 171 725 = some (.iconst 1, []) := rfl
set_option maxRecDepth 20000 in
theorem c171_726 : xCD 171 726 = some (.iadd, []) := rfl
set_option maxRecDepth 20000 in
theorem c171_727 : xCD 171 727 = some (.iaload, []) := rfl
set_option maxRecDepth 20000 in
theorem c171_728 : xCD 171 728 = some (.invokevirtual 119, [166, 1, 0, 790, 792, 406, 791, 793]) := rfl
set_option maxRecDepth 20000 in
theorem c171_731 : xCD 171 731 = some (.if_icmp .eq 97, [828]) := rfl
set_option maxRecDepth 20000 in
theorem c171_734 : xCD 171 734 = some (.iconst 0, []) := rfl
set_option maxRecDepth 20000 in
theorem c171_735 : xCD 171 735 = some (.ireturn, []) := rfl
set_option maxRecDepth 20000 in
theorem c171_736 : xCD 171 736 = some (.aload_n 1, []) := rfl
set_option maxRecDepth 20000 in
theorem c171_737 : xCD 171 737 = some (.aload_n 0, []) := rfl
set_option maxRecDepth 20000 in
theorem c171_738 : xCD 171 738 = some (.iload_n 3, []) := rfl
set_option maxRecDepth 20000 in
theorem c171_739 : xCD 171 739 = some (.iconst 1, []) := rfl
set_option maxRecDepth 20000 in
theorem c171_740 : xCD 171 740 = some (.iadd, []) := rfl
set_option maxRecDepth 20000 in
theorem c171_741 : xCD 171 741 = some (.iaload, []) := rfl
set_option maxRecDepth 20000 in
theorem c171_742 : xCD 171 742 = some (.aload_n 0, []) := rfl
set_option maxRecDepth 20000 in
theorem c171_743 : xCD 171 743 = some (.iload_n 3, []) := rfl
set_option maxRecDepth 20000 in
theorem c171_744 : xCD 171 744 = some (.iconst 2, []) := rfl
set_option maxRecDepth 20000 in
theorem c171_745 : xCD 171 745 = some (.iadd, []) := rfl
set_option maxRecDepth 20000 in
theorem c171_746 : xCD 171 746 = some (.iaload, []) := rfl
set_option maxRecDepth 20000 in
theorem c171_747 : xCD 171 747 = some (.aload_n 0, []) := rfl
set_option maxRecDepth 20000 in
theorem c171_748 : xCD 171 748 = some (.iload_n 3, []) := rfl
set_option maxRecDepth 20000 in
theorem c171_749 : xCD 171 749 = some (.iconst 3, []) := rfl
set_option maxRecDepth 20000 in
theorem c171_750 : xCD 171 750 = some (.iadd, []) := rfl
set_option maxRecDepth 20000 in
theorem c171_751 : xCD 171 751 = some (.iaload, []) := rfl
set_option maxRecDepth 20000 in
theorem c171_752 : xCD 171 752 = some (.invokevirtual 120, [95, 3, 0, 794, 796, 63, 795, 797]) := rfl
set_option maxRecDepth 20000 in
theorem c171_755 : xCD 171 755 = some (.aload_n 2, []) := rfl
set_option maxRecDepth 20000 in
theorem c171_756 : xCD 171 756 = some (.aload_n 0, []) := rfl
set_option maxRecDepth 20000 in
theorem c171_757 : xCD 171 757 = some (.iload_n 3, []) := rfl
set_option maxRecDepth 20000 in
theorem c171_758 : xCD 171 758 = some (.iconst 1, []) := rfl
set_option maxRecDepth 20000 in
theorem c171_759 : xCD 171 759 = some (.iadd, []) := rfl
set_option maxRecDepth 20000 in
theorem c171_760 : xCD 171 760 = some (.iaload, []) := rfl
set_option maxRecDepth 20000 in
theorem c171_761 : xCD 171 761 = some (.aload_n 0, []) := rfl
set_option maxRecDepth 20000 in
theorem c171_762 : xCD 171 762 = some (.iload_n 3, []) := rfl
set_option maxRecDepth 20000 in
theorem c171_763 : xCD 171 763 = some (.iconst 2, []) := rfl
set_option maxRecDepth 20000 in
theorem c171_764 : xCD 171 764 = some (.iadd, []) := rfl
set_option maxRecDepth 20000 in
theorem c171_765 : xCD 171 765 = some (.iaload, []) := rfl
set_option maxRecDepth 20000 in
theorem c171_766 : xCD 171 766 = some (.aload_n 0, []) := rfl
set_option maxRecDepth 20000 in
theorem c171_767 : xCD 171 767 = some (.iload_n 3, []) := rfl
set_option maxRecDepth 20000 in
theorem c171_768 : xCD 171 768 = some (.iconst 3, []) := rfl
set_option maxRecDepth 20000 in
theorem c171_769 : xCD 171 769 = some (.iadd, []) := rfl
set_option maxRecDepth 20000 in
theorem c171_770 : xCD 171 770 = some (.iaload, []) := rfl
set_option maxRecDepth 20000 in
theorem c171_771 : xCD 171 771 = some (.invokevirtual 124, [167, 3, 0, 798, 800, 406, 799, 801]) := rfl
set_option maxRecDepth 20000 in
theorem c171_774 : xCD 171 774 = some (.if_icmp .eq 54, [828]) := rfl
set_option maxRecDepth 20000 in
theorem c171_777 : xCD 171 777 = some (.iconst 0, []) := rfl
set_option maxRecDepth 20000 in
theorem c171_778 : xCD 171 778 = some (.ireturn, []) := rfl
set_option maxRecDepth 20000 in
theorem c171_779 : xCD 171 779 = some (.aload_n 1, []) := rfl
set_option maxRecDepth 20000 in
theorem c171_780 : xCD 171 780 = some (.invokevirtual 125, [98, 0, 0, 802, 804, 63, 803, 805]) := rfl
set_option maxRecDepth 20000 in
theorem c171_783 : xCD 171 783 = some (.aload_n 2, []) := rfl
set_option maxRecDepth 20000 in
theorem c171_784 : xCD 171 784 = some (.invokevirtual 128, [168, 0, 0, 806, 808, 406, 807, 809]) := rfl
set_option maxRecDepth 20000 in
theorem c171_787 : xCD 171 787 = some (.if_icmp .eq 41, [828]) := rfl
set_option maxRecDepth 20000 in
theorem c171_790 : xCD 171 790 = some (.iconst 0, []) := rfl
set_option maxRecDepth 20000 in
theorem c171_791 : xCD 171 791 = some (.ireturn, []) := rfl
set_option maxRecDepth 20000 in
theorem c171_792 : xCD 171 792 = some (.aload_n 1, []) := rfl
set_option maxRecDepth 20000 in
theorem c171_793 : xCD 171 793 = some (.invokevirtual 129, [99, 0, 0, 810, 812, 63, 811, 813]) := rfl
set_option maxRecDepth 20000 in
theorem c171_796 : xCD 171 796 = some (.aload_n 2, []) := rfl
set_option maxRecDepth 20000 in
theorem c171_797 : xCD 171 797 = some (.invokevirtual 132, [169, 0, 0, 814, 816, 406, 815, 817]) := rfl
set_option maxRecDepth 20000 in
theorem c171_800 : xCD 171 800 = some (.if_icmp .eq 28, [828]) := rfl
set_option maxRecDepth 20000 in
theorem c171_803 : xCD 171 803 = some (.iconst 0, []) := rfl
set_option maxRecDepth 20000 in
theorem c171_804 : xCD 171 804 = some (.ireturn, []) := rfl
set_option maxRecDepth 20000 in
theorem c171_805 : xCD 171 805 = some (.aload_n 1, []) := rfl
set_option maxRecDepth 20000 in
theorem c171_806 : xCD 171 806 = some (.aload_n 0, []) := rfl
set_option maxRecDepth 20000 in
theorem c171_807 : xCD 171 807 = some (.iload_n 3, []) := rfl
set_option maxRecDepth 20000 in
theorem c171_808 : xCD 171 808 = some (.iconst 1, []) := rfl
set_option maxRecDepth 20000 in
theorem c171_809 : xCD 171 809 = some (.iadd, []) := rfl
set_option maxRecDepth 20000 in
theorem c171_810 : xCD 171 810 = some (.iaload, []) := rfl
set_option maxRecDepth 20000 in
theorem c171_811 : xCD 171 811 = some (.invokevirtual 133, [100, 1, 0, 818, 820, 63, 819, 821]) := rfl
set_option maxRecDepth 20000 in
theorem c171_814 : xCD 171 814 = some (.aload_n 2, []) := rfl
set_option maxRecDepth 20000 in
theorem c171_815 : xCD 171 815 = some (.aload_n 0, []) := rfl
set_option maxRecDepth 20000 in
theorem c171_816 : xCD 171 816 = some (.iload_n 3, []) := rfl
set_option maxRecDepth 20000 in
theorem c171_817 : xCD 171 817 = some (.iconst 1, []) := rfl
set_option maxRecDepth 20000 in
theorem c171_818 : xCD 171 818 = some (.iadd, []) := rfl
set_option maxRecDepth 20000 in
theorem c171_819 : xCD 171 819 = some (.iaload, []) := rfl
set_option maxRecDepth 20000 in
theorem c171_820 : xCD 171 820 = some (.invokevirtual 136, [170, 1, 0, 822, 824, 406, 823, 825]) := rfl
set_option maxRecDepth 20000 in
theorem c171_823 : xCD 171 823 = some (.if_icmp .eq 5, [828]) := rfl
set_option maxRecDepth 20000 in
theorem c171_826 : xCD 171 826 = some (.iconst 0, []) := rfl
set_option maxRecDepth 20000 in
theorem c171_827 : xCD 171 827 = some (.ireturn, []) := rfl
set_option maxRecDepth 20000 in
theorem c171_828 : xCD 171 828 = some (.iinc 3 4, []) := rfl
set_option maxRecDepth 20000 in
theorem c171_831 : xCD 171 831 = some (.goto (-813), [18]) := rfl
set_option maxRecDepth 20000 in
theorem c171_834 : xCD 171 834 = some (.iconst 1, []) := rfl
set_option maxRecDepth 20000 in
theorem c171_835 : xCD 171 835 = some (.ireturn, []) := rfl
