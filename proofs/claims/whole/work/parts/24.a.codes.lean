/-! Rows of code of the methods that are read step by step: printed by wip/whole/runc.py. -/
theorem c0_0 : xCD 0 0 = some (.aload_n 0, []) := rfl
theorem c0_1 : xCD 0 1 = some (.invokespecial 1, [1, 0, 1, 2]) := rfl
theorem c0_4 : xCD 0 4 = some (.aload_n 0, []) := rfl
theorem c0_5 : xCD 0 5 = some (.new 7, [1, 3, 4, 5]) := rfl
theorem c0_8 : xCD 0 8 = some (.dup, []) := rfl
theorem c0_9 : xCD 0 9 = some (.invokespecial 9, [2, 0, 1, 0, 7, 5, 6]) := rfl
theorem c0_12 : xCD 0 12 = some (.putfield 10, [0, 0, 8]) := rfl
theorem c0_15 : xCD 0 15 = some (.aload_n 0, []) := rfl
theorem c0_16 : xCD 0 16 = some (.new 16, [2, 9, 10, 11]) := rfl
theorem c0_19 : xCD 0 19 = some (.dup, []) := rfl
theorem c0_20 : xCD 0 20 = some (.invokespecial 18, [3, 0, 1, 3, 13, 11, 12]) := rfl
theorem c0_23 : xCD 0 23 = some (.putfield 19, [0, 1, 14]) := rfl
theorem c0_26 : xCD 0 26 = some (.aload_n 0, []) := rfl
theorem c0_27 : xCD 0 27 = some (.new 23, [3, 15, 16, 17]) := rfl
theorem c0_30 : xCD 0 30 = some (.dup, []) := rfl
theorem c0_31 : xCD 0 31 = some (.invokespecial 25, [4, 0, 1, 4, 19, 17, 18]) := rfl
theorem c0_34 : xCD 0 34 = some (.putfield 26, [0, 2, 20]) := rfl
theorem c0_37 : xCD 0 37 = some (.aload_n 0, []) := rfl
theorem c0_38 : xCD 0 38 = some (.new 30, [4, 21, 22, 23]) := rfl
theorem c0_41 : xCD 0 41 = some (.dup, []) := rfl
theorem c0_42 : xCD 0 42 = some (.invokespecial 32, [5, 0, 1, 5, 25, 23, 24]) := rfl
theorem c0_45 : xCD 0 45 = some (.putfield 33, [0, 3, 26]) := rfl
theorem c0_48 : xCD 0 48 = some (.aload_n 0, []) := rfl
theorem c0_49 : xCD 0 49 = some (.new 30, [4, 21, 22, 23]) := rfl
theorem c0_52 : xCD 0 52 = some (.dup, []) := rfl
theorem c0_53 : xCD 0 53 = some (.invokespecial 32, [5, 0, 1, 5, 25, 23, 24]) := rfl
theorem c0_56 : xCD 0 56 = some (.putfield 37, [0, 4, 27]) := rfl
theorem c0_59 : xCD 0 59 = some (.aload_n 0, []) := rfl
theorem c0_60 : xCD 0 60 = some (.new 23, [3, 15, 16, 17]) := rfl
theorem c0_63 : xCD 0 63 = some (.dup, []) := rfl
theorem c0_64 : xCD 0 64 = some (.invokespecial 25, [4, 0, 1, 4, 19, 17, 18]) := rfl
theorem c0_67 : xCD 0 67 = some (.putfield 40, [0, 5, 28]) := rfl
theorem c0_70 : xCD 0 70 = some (.aload_n 0, []) := rfl
theorem c0_71 : xCD 0 71 = some (.new 43, [5, 29, 30, 31]) := rfl
theorem c0_74 : xCD 0 74 = some (.dup, []) := rfl
theorem c0_75 : xCD 0 75 = some (.aload_n 0, []) := rfl
theorem c0_76 : xCD 0 76 = some (.getfield 19, [0, 1, 14]) := rfl
theorem c0_79 : xCD 0 79 = some (.aload_n 0, []) := rfl
theorem c0_80 : xCD 0 80 = some (.getfield 40, [0, 5, 28]) := rfl
theorem c0_83 : xCD 0 83 = some (.invokespecial 45, [6, 2, 0, 32, 34, 31, 33]) := rfl
theorem c0_86 : xCD 0 86 = some (.putfield 48, [0, 6, 35]) := rfl
theorem c0_89 : xCD 0 89 = some (.aload_n 0, []) := rfl
theorem c0_90 : xCD 0 90 = some (.new 52, [6, 36, 37, 38]) := rfl
theorem c0_93 : xCD 0 93 = some (.dup, []) := rfl
theorem c0_94 : xCD 0 94 = some (.aload_n 0, []) := rfl
theorem c0_95 : xCD 0 95 = some (.getfield 19, [0, 1, 14]) := rfl
theorem c0_98 : xCD 0 98 = some (.aload_n 0, []) := rfl
theorem c0_99 : xCD 0 99 = some (.getfield 40, [0, 5, 28]) := rfl
theorem c0_102 : xCD 0 102 = some (.aload_n 0, []) := rfl
theorem c0_103 : xCD 0 103 = some (.getfield 48, [0, 6, 35]) := rfl
theorem c0_106 : xCD 0 106 = some (.invokespecial 54, [7, 3, 0, 39, 41, 38, 40]) := rfl
theorem c0_109 : xCD 0 109 = some (.putfield 57, [0, 7, 42]) := rfl
theorem c0_112 : xCD 0 112 = some (.aload_n 0, []) := rfl
theorem c0_113 : xCD 0 113 = some (.bipush 6, []) := rfl
theorem c0_115 : xCD 0 115 = some (.newarray .int, [0, 43]) := rfl
theorem c0_117 : xCD 0 117 = some (.putfield 61, [0, 8, 44]) := rfl
theorem c0_120 : xCD 0 120 = some (.aload_n 0, []) := rfl
theorem c0_121 : xCD 0 121 = some (.bipush 6, []) := rfl
theorem c0_123 : xCD 0 123 = some (.newarray .int, [0, 43]) := rfl
theorem c0_125 : xCD 0 125 = some (.putfield 65, [0, 9, 45]) := rfl
theorem c0_128 : xCD 0 128 = some (.aload_n 0, []) := rfl
theorem c0_129 : xCD 0 129 = some (.iconst 0, []) := rfl
theorem c0_130 : xCD 0 130 = some (.putfield 68, [0, 10, 46]) := rfl
theorem c0_133 : xCD 0 133 = some (.iconst 0, []) := rfl
theorem c0_134 : xCD 0 134 = some (.istore_n 1, []) := rfl
theorem c0_135 : xCD 0 135 = some (.iload_n 1, []) := rfl
theorem c0_136 : xCD 0 136 = some (.ldc 72, [0, 0]) := rfl
theorem c0_138 : xCD 0 138 = some (.invokevirtual 74, [8, 0, 0, 47, 50, 48, 49, 51]) := rfl
theorem c0_141 : xCD 0 141 = some (.if_icmp .ge 23, [164]) := rfl
theorem c0_144 : xCD 0 144 = some (.aload_n 0, []) := rfl
theorem c0_145 : xCD 0 145 = some (.getfield 10, [0, 0, 8]) := rfl
theorem c0_148 : xCD 0 148 = some (.ldc 72, [0, 0]) := rfl
theorem c0_150 : xCD 0 150 = some (.iload_n 1, []) := rfl
theorem c0_151 : xCD 0 151 = some (.invokevirtual 80, [10, 1, 0, 52, 54, 48, 53, 55]) := rfl
theorem c0_154 : xCD 0 154 = some (.invokevirtual 84, [19, 1, 0, 56, 58, 5, 57, 59]) := rfl
theorem c0_157 : xCD 0 157 = some (.pop, []) := rfl
theorem c0_158 : xCD 0 158 = some (.iinc 1 1, []) := rfl
theorem c0_161 : xCD 0 161 = some (.goto (-26), [135]) := rfl
theorem c0_164 : xCD 0 164 = some (.aload_n 0, []) := rfl
theorem c0_165 : xCD 0 165 = some (.invokevirtual 88, [20, 0, 0, 60, 63, 61, 62, 64]) := rfl
theorem c0_168 : xCD 0 168 = some (.pop, []) := rfl
theorem c0_169 : xCD 0 169 = some (.aload_n 0, []) := rfl
theorem c0_170 : xCD 0 170 = some (.getfield 10, [0, 0, 8]) := rfl
theorem c0_173 : xCD 0 173 = some (.iconst 0, []) := rfl
theorem c0_174 : xCD 0 174 = some (.putfield 91, [1, 1, 65]) := rfl
theorem c0_177 : xCD 0 177 = some (.return_, []) := rfl
theorem c2_0 : xCD 2 0 = some (.aload_n 0, []) := rfl
theorem c2_1 : xCD 2 1 = some (.invokespecial 3, [1, 66, 1, 2]) := rfl
theorem c2_4 : xCD 2 4 = some (.aload_n 0, []) := rfl
theorem c2_5 : xCD 2 5 = some (.sipush 200, []) := rfl
theorem c2_8 : xCD 2 8 = some (.newarray .char, [1, 67]) := rfl
theorem c2_10 : xCD 2 10 = some (.putfield 9, [1, 0, 68]) := rfl
theorem c2_13 : xCD 2 13 = some (.aload_n 0, []) := rfl
theorem c2_14 : xCD 2 14 = some (.iconst 0, []) := rfl
theorem c2_15 : xCD 2 15 = some (.putfield 15, [1, 1, 69]) := rfl
theorem c2_18 : xCD 2 18 = some (.aload_n 0, []) := rfl
theorem c2_19 : xCD 2 19 = some (.new 19, [2, 70, 10, 11]) := rfl
theorem c2_22 : xCD 2 22 = some (.dup, []) := rfl
theorem c2_23 : xCD 2 23 = some (.invokespecial 21, [3, 0, 1, 1, 13, 11, 12]) := rfl
theorem c2_26 : xCD 2 26 = some (.putfield 22, [1, 2, 71]) := rfl
theorem c2_29 : xCD 2 29 = some (.aload_n 0, []) := rfl
theorem c2_30 : xCD 2 30 = some (.new 26, [3, 72, 16, 17]) := rfl
theorem c2_33 : xCD 2 33 = some (.dup, []) := rfl
theorem c2_34 : xCD 2 34 = some (.invokespecial 28, [4, 0, 1, 2, 19, 17, 18]) := rfl
theorem c2_37 : xCD 2 37 = some (.putfield 29, [1, 3, 73]) := rfl
theorem c2_40 : xCD 2 40 = some (.aload_n 0, []) := rfl
theorem c2_41 : xCD 2 41 = some (.iconst 4, []) := rfl
theorem c2_42 : xCD 2 42 = some (.newarray .int, [0, 43]) := rfl
theorem c2_44 : xCD 2 44 = some (.putfield 33, [1, 4, 74]) := rfl
theorem c2_47 : xCD 2 47 = some (.aload_n 0, []) := rfl
theorem c2_48 : xCD 2 48 = some (.iconst 0, []) := rfl
theorem c2_49 : xCD 2 49 = some (.putfield 37, [1, 5, 75]) := rfl
theorem c2_52 : xCD 2 52 = some (.aload_n 0, []) := rfl
theorem c2_53 : xCD 2 53 = some (.iconst 0, []) := rfl
theorem c2_54 : xCD 2 54 = some (.putfield 40, [1, 6, 76]) := rfl
theorem c2_57 : xCD 2 57 = some (.return_, []) := rfl
theorem c3_0 : xCD 3 0 = some (.aload_n 0, []) := rfl
theorem c3_1 : xCD 3 1 = some (.invokespecial 3, [1, 77, 1, 2]) := rfl
theorem c3_4 : xCD 3 4 = some (.aload_n 0, []) := rfl
theorem c3_5 : xCD 3 5 = some (.bipush 36, []) := rfl
theorem c3_7 : xCD 3 7 = some (.newarray .int, [0, 43]) := rfl
theorem c3_9 : xCD 3 9 = some (.putfield 9, [2, 3, 78]) := rfl
theorem c3_12 : xCD 3 12 = some (.aload_n 0, []) := rfl
theorem c3_13 : xCD 3 13 = some (.iconst 4, []) := rfl
theorem c3_14 : xCD 3 14 = some (.newarray .int, [0, 43]) := rfl
theorem c3_16 : xCD 3 16 = some (.putfield 15, [2, 4, 79]) := rfl
theorem c3_19 : xCD 3 19 = some (.return_, []) := rfl
theorem c4_0 : xCD 4 0 = some (.aload_n 0, []) := rfl
theorem c4_1 : xCD 4 1 = some (.invokespecial 3, [1, 80, 1, 2]) := rfl
theorem c4_4 : xCD 4 4 = some (.aload_n 0, []) := rfl
theorem c4_5 : xCD 4 5 = some (.bipush 36, []) := rfl
theorem c4_7 : xCD 4 7 = some (.newarray .int, [0, 43]) := rfl
theorem c4_9 : xCD 4 9 = some (.putfield 9, [3, 0, 81]) := rfl
theorem c4_12 : xCD 4 12 = some (.aload_n 0, []) := rfl
theorem c4_13 : xCD 4 13 = some (.bipush 36, []) := rfl
theorem c4_15 : xCD 4 15 = some (.newarray .int, [0, 43]) := rfl
theorem c4_17 : xCD 4 17 = some (.putfield 15, [3, 1, 82]) := rfl
theorem c4_20 : xCD 4 20 = some (.aload_n 0, []) := rfl
theorem c4_21 : xCD 4 21 = some (.bipush 36, []) := rfl
theorem c4_23 : xCD 4 23 = some (.newarray .boolean, [2, 83]) := rfl
theorem c4_25 : xCD 4 25 = some (.putfield 18, [3, 2, 84]) := rfl
theorem c4_28 : xCD 4 28 = some (.return_, []) := rfl
theorem c5_0 : xCD 5 0 = some (.aload_n 0, []) := rfl
theorem c5_1 : xCD 5 1 = some (.invokespecial 3, [1, 85, 1, 2]) := rfl
theorem c5_4 : xCD 5 4 = some (.aload_n 0, []) := rfl
theorem c5_5 : xCD 5 5 = some (.bipush 8, []) := rfl
theorem c5_7 : xCD 5 7 = some (.anewarray 9, [3, 86]) := rfl
theorem c5_10 : xCD 5 10 = some (.putfield 11, [4, 0, 87]) := rfl
theorem c5_13 : xCD 5 13 = some (.aload_n 0, []) := rfl
theorem c5_14 : xCD 5 14 = some (.iconst 0, []) := rfl
theorem c5_15 : xCD 5 15 = some (.putfield 17, [4, 1, 88]) := rfl
theorem c5_18 : xCD 5 18 = some (.aload_n 0, []) := rfl
theorem c5_19 : xCD 5 19 = some (.iconst 0, []) := rfl
theorem c5_20 : xCD 5 20 = some (.putfield 21, [4, 2, 89]) := rfl
theorem c5_23 : xCD 5 23 = some (.return_, []) := rfl
theorem c6_0 : xCD 6 0 = some (.aload_n 0, []) := rfl
theorem c6_1 : xCD 6 1 = some (.invokespecial 3, [1, 90, 1, 2]) := rfl
theorem c6_4 : xCD 6 4 = some (.aload_n 0, []) := rfl
theorem c6_5 : xCD 6 5 = some (.bipush 36, []) := rfl
theorem c6_7 : xCD 6 7 = some (.newarray .int, [0, 43]) := rfl
theorem c6_9 : xCD 6 9 = some (.putfield 9, [5, 2, 91]) := rfl
theorem c6_12 : xCD 6 12 = some (.aload_n 0, []) := rfl
theorem c6_13 : xCD 6 13 = some (.iconst 0, []) := rfl
theorem c6_14 : xCD 6 14 = some (.putfield 15, [5, 3, 92]) := rfl
theorem c6_17 : xCD 6 17 = some (.aload_n 0, []) := rfl
theorem c6_18 : xCD 6 18 = some (.iconst 0, []) := rfl
theorem c6_19 : xCD 6 19 = some (.putfield 19, [5, 4, 93]) := rfl
theorem c6_22 : xCD 6 22 = some (.aload_n 0, []) := rfl
theorem c6_23 : xCD 6 23 = some (.iconst 0, []) := rfl
theorem c6_24 : xCD 6 24 = some (.putfield 22, [5, 5, 94]) := rfl
theorem c6_27 : xCD 6 27 = some (.aload_n 0, []) := rfl
theorem c6_28 : xCD 6 28 = some (.aload_n 1, []) := rfl
theorem c6_29 : xCD 6 29 = some (.putfield 25, [5, 0, 95]) := rfl
theorem c6_32 : xCD 6 32 = some (.aload_n 0, []) := rfl
theorem c6_33 : xCD 6 33 = some (.aload_n 2, []) := rfl
theorem c6_34 : xCD 6 34 = some (.putfield 29, [5, 1, 96]) := rfl
theorem c6_37 : xCD 6 37 = some (.return_, []) := rfl
theorem c7_0 : xCD 7 0 = some (.aload_n 0, []) := rfl
theorem c7_1 : xCD 7 1 = some (.invokespecial 3, [1, 97, 1, 2]) := rfl
theorem c7_4 : xCD 7 4 = some (.aload_n 0, []) := rfl
theorem c7_5 : xCD 7 5 = some (.iconst 3, []) := rfl
theorem c7_6 : xCD 7 6 = some (.newarray .int, [0, 43]) := rfl
theorem c7_8 : xCD 7 8 = some (.putfield 9, [6, 3, 98]) := rfl
theorem c7_11 : xCD 7 11 = some (.aload_n 0, []) := rfl
theorem c7_12 : xCD 7 12 = some (.iconst 3, []) := rfl
theorem c7_13 : xCD 7 13 = some (.newarray .int, [0, 43]) := rfl
theorem c7_15 : xCD 7 15 = some (.putfield 15, [6, 4, 99]) := rfl
theorem c7_18 : xCD 7 18 = some (.aload_n 0, []) := rfl
theorem c7_19 : xCD 7 19 = some (.iconst 0, []) := rfl
theorem c7_20 : xCD 7 20 = some (.putfield 18, [6, 5, 100]) := rfl
theorem c7_23 : xCD 7 23 = some (.aload_n 0, []) := rfl
theorem c7_24 : xCD 7 24 = some (.iconst 0, []) := rfl
theorem c7_25 : xCD 7 25 = some (.putfield 22, [6, 6, 101]) := rfl
theorem c7_28 : xCD 7 28 = some (.aload_n 0, []) := rfl
theorem c7_29 : xCD 7 29 = some (.iconst 0, []) := rfl
theorem c7_30 : xCD 7 30 = some (.putfield 25, [6, 7, 102]) := rfl
theorem c7_33 : xCD 7 33 = some (.aload_n 0, []) := rfl
theorem c7_34 : xCD 7 34 = some (.iconst 0, []) := rfl
theorem c7_35 : xCD 7 35 = some (.putfield 29, [6, 8, 103]) := rfl
theorem c7_38 : xCD 7 38 = some (.aload_n 0, []) := rfl
theorem c7_39 : xCD 7 39 = some (.aload_n 1, []) := rfl
theorem c7_40 : xCD 7 40 = some (.putfield 32, [6, 0, 104]) := rfl
theorem c7_43 : xCD 7 43 = some (.aload_n 0, []) := rfl
theorem c7_44 : xCD 7 44 = some (.aload_n 2, []) := rfl
theorem c7_45 : xCD 7 45 = some (.putfield 36, [6, 1, 105]) := rfl
theorem c7_48 : xCD 7 48 = some (.aload_n 0, []) := rfl
theorem c7_49 : xCD 7 49 = some (.aload_n 3, []) := rfl
theorem c7_50 : xCD 7 50 = some (.putfield 40, [6, 2, 106]) := rfl
theorem c7_53 : xCD 7 53 = some (.return_, []) := rfl
theorem c8_0 : xCD 8 0 = some (.aload_n 0, []) := rfl
theorem c8_1 : xCD 8 1 = some (.getfield 9, [0, 107]) := rfl
theorem c8_4 : xCD 8 4 = some (.arraylength, []) := rfl
theorem c8_5 : xCD 8 5 = some (.aload_n 0, []) := rfl
theorem c8_6 : xCD 8 6 = some (.invokevirtual 335, [9, 0, 0, 108, 110, 48, 109, 111]) := rfl
theorem c8_9 : xCD 8 9 = some (.ishr, []) := rfl
theorem c8_10 : xCD 8 10 = some (.ireturn, []) := rfl
theorem c9_0 : xCD 9 0 = some (.getstatic 38, [1, 112]) := rfl
theorem c9_3 : xCD 9 3 = some (.ifCond .eq 10, [13]) := rfl
theorem c9_6 : xCD 9 6 = some (.aload_n 0, []) := rfl
theorem c9_7 : xCD 9 7 = some (.getfield 15, [1, 113]) := rfl
theorem c9_10 : xCD 9 10 = some (.goto 4, [14]) := rfl
theorem c9_13 : xCD 9 13 = some (.iconst 1, []) := rfl
theorem c9_14 : xCD 9 14 = some (.ireturn, []) := rfl
theorem c10_0 : xCD 10 0 = some (.aload_n 0, []) := rfl
theorem c10_1 : xCD 10 1 = some (.invokevirtual 492, [11, 0, 0, 114, 116, 48, 115, 117]) := rfl
theorem c10_4 : xCD 10 4 = some (.ifCond .eq 12, [16]) := rfl
theorem c10_7 : xCD 10 7 = some (.aload_n 0, []) := rfl
theorem c10_8 : xCD 10 8 = some (.getfield 9, [0, 107]) := rfl
theorem c10_11 : xCD 10 11 = some (.iload_n 1, []) := rfl
theorem c10_12 : xCD 10 12 = some (.invokestatic 495, [12, 2, 0, 118, 121, 119, 120]) := rfl
theorem c10_15 : xCD 10 15 = some (.ireturn, []) := rfl
theorem c10_16 : xCD 10 16 = some (.aload_n 0, []) := rfl
theorem c10_17 : xCD 10 17 = some (.getfield 9, [0, 107]) := rfl
theorem c10_20 : xCD 10 20 = some (.iload_n 1, []) := rfl
theorem c10_21 : xCD 10 21 = some (.invokestatic 498, [15, 2, 0, 122, 125, 123, 124]) := rfl
theorem c10_24 : xCD 10 24 = some (.ireturn, []) := rfl
theorem c11_0 : xCD 11 0 = some (.getstatic 38, [1, 112]) := rfl
theorem c11_3 : xCD 11 3 = some (.ifCond .eq 14, [17]) := rfl
theorem c11_6 : xCD 11 6 = some (.aload_n 0, []) := rfl
theorem c11_7 : xCD 11 7 = some (.getfield 15, [1, 113]) := rfl
theorem c11_10 : xCD 11 10 = some (.ifCond .ne 7, [17]) := rfl
theorem c11_13 : xCD 11 13 = some (.iconst 1, []) := rfl
theorem c11_14 : xCD 11 14 = some (.goto 4, [18]) := rfl
theorem c11_17 : xCD 11 17 = some (.iconst 0, []) := rfl
theorem c11_18 : xCD 11 18 = some (.ireturn, []) := rfl
theorem c12_0 : xCD 12 0 = some (.iload_n 1, []) := rfl
theorem c12_1 : xCD 12 1 = some (.aload_n 0, []) := rfl
theorem c12_2 : xCD 12 2 = some (.arraylength, []) := rfl
theorem c12_3 : xCD 12 3 = some (.invokestatic 9, [13, 2, 0, 126, 128, 48, 127]) := rfl
theorem c12_6 : xCD 12 6 = some (.aload_n 0, []) := rfl
theorem c12_7 : xCD 12 7 = some (.iload_n 1, []) := rfl
theorem c12_8 : xCD 12 8 = some (.baload, []) := rfl
theorem c12_9 : xCD 12 9 = some (.sipush 255, []) := rfl
theorem c12_12 : xCD 12 12 = some (.iand, []) := rfl
theorem c12_13 : xCD 12 13 = some (.i2c, []) := rfl
theorem c12_14 : xCD 12 14 = some (.ireturn, []) := rfl
theorem c57_0 : xCD 57 0 = some (.aload_n 0, []) := rfl
theorem c57_1 : xCD 57 1 = some (.getfield 17, [4, 1, 88]) := rfl
theorem c57_4 : xCD 57 4 = some (.ifCond .lt 12, [16]) := rfl
theorem c57_7 : xCD 57 7 = some (.aload_n 0, []) := rfl
theorem c57_8 : xCD 57 8 = some (.getfield 17, [4, 1, 88]) := rfl
theorem c57_11 : xCD 57 11 = some (.bipush 8, []) := rfl
theorem c57_13 : xCD 57 13 = some (.if_icmp .lt 4, [17]) := rfl
theorem c57_16 : xCD 57 16 = some (.return_, []) := rfl
theorem c57_17 : xCD 57 17 = some (.aload_n 0, []) := rfl
theorem c57_18 : xCD 57 18 = some (.getfield 11, [4, 0, 87]) := rfl
theorem c57_21 : xCD 57 21 = some (.aload_n 0, []) := rfl
theorem c57_22 : xCD 57 22 = some (.getfield 17, [4, 1, 88]) := rfl
theorem c57_25 : xCD 57 25 = some (.aaload, []) := rfl
theorem c57_26 : xCD 57 26 = some (.ifnonnull 19, [45]) := rfl
theorem c57_29 : xCD 57 29 = some (.aload_n 0, []) := rfl
theorem c57_30 : xCD 57 30 = some (.getfield 11, [4, 0, 87]) := rfl
theorem c57_33 : xCD 57 33 = some (.aload_n 0, []) := rfl
theorem c57_34 : xCD 57 34 = some (.getfield 17, [4, 1, 88]) := rfl
theorem c57_37 : xCD 57 37 = some (.new 9, [3, 86, 16, 17]) := rfl
theorem c57_40 : xCD 57 40 = some (.dup, []) := rfl
theorem c57_41 : xCD 57 41 = some (.invokespecial 24, [4, 0, 1, 7, 19, 17, 18]) := rfl
theorem c57_44 : xCD 57 44 = some (.aastore, []) := rfl
theorem c57_45 : xCD 57 45 = some (.aload_n 0, []) := rfl
theorem c57_46 : xCD 57 46 = some (.getfield 11, [4, 0, 87]) := rfl
theorem c57_49 : xCD 57 49 = some (.aload_n 0, []) := rfl
theorem c57_50 : xCD 57 50 = some (.getfield 17, [4, 1, 88]) := rfl
theorem c57_53 : xCD 57 53 = some (.aaload, []) := rfl
theorem c57_54 : xCD 57 54 = some (.aload_n 1, []) := rfl
theorem c57_55 : xCD 57 55 = some (.invokevirtual 25, [34, 1, 0, 286, 151, 17, 150, 152]) := rfl
theorem c57_58 : xCD 57 58 = some (.aload_n 0, []) := rfl
theorem c57_59 : xCD 57 59 = some (.aload_n 0, []) := rfl
theorem c57_60 : xCD 57 60 = some (.getfield 17, [4, 1, 88]) := rfl
theorem c57_63 : xCD 57 63 = some (.iconst 1, []) := rfl
theorem c57_64 : xCD 57 64 = some (.iadd, []) := rfl
theorem c57_65 : xCD 57 65 = some (.bipush 8, []) := rfl
theorem c57_67 : xCD 57 67 = some (.if_icmp .ge 12, [79]) := rfl
theorem c57_70 : xCD 57 70 = some (.aload_n 0, []) := rfl
theorem c57_71 : xCD 57 71 = some (.getfield 17, [4, 1, 88]) := rfl
theorem c57_74 : xCD 57 74 = some (.iconst 1, []) := rfl
theorem c57_75 : xCD 57 75 = some (.iadd, []) := rfl
theorem c57_76 : xCD 57 76 = some (.goto 4, [80]) := rfl
theorem c57_79 : xCD 57 79 = some (.iconst 0, []) := rfl
theorem c57_80 : xCD 57 80 = some (.putfield 17, [4, 1, 88]) := rfl
theorem c57_83 : xCD 57 83 = some (.aload_n 0, []) := rfl
theorem c57_84 : xCD 57 84 = some (.getfield 21, [4, 2, 89]) := rfl
theorem c57_87 : xCD 57 87 = some (.bipush 8, []) := rfl
theorem c57_89 : xCD 57 89 = some (.if_icmp .ge 13, [102]) := rfl
theorem c57_92 : xCD 57 92 = some (.aload_n 0, []) := rfl
theorem c57_93 : xCD 57 93 = some (.dup, []) := rfl
theorem c57_94 : xCD 57 94 = some (.getfield 21, [4, 2, 89]) := rfl
theorem c57_97 : xCD 57 97 = some (.iconst 1, []) := rfl
theorem c57_98 : xCD 57 98 = some (.iadd, []) := rfl
theorem c57_99 : xCD 57 99 = some (.putfield 21, [4, 2, 89]) := rfl
theorem c57_102 : xCD 57 102 = some (.return_, []) := rfl
theorem c67_0 : xCD 67 0 = some (.aload_n 0, []) := rfl
theorem c67_1 : xCD 67 1 = some (.getfield 17, [4, 1, 88]) := rfl
theorem c67_4 : xCD 67 4 = some (.ifCond .le 21, [25]) := rfl
theorem c67_7 : xCD 67 7 = some (.aload_n 0, []) := rfl
theorem c67_8 : xCD 67 8 = some (.getfield 17, [4, 1, 88]) := rfl
theorem c67_11 : xCD 67 11 = some (.bipush 8, []) := rfl
theorem c67_13 : xCD 67 13 = some (.if_icmp .ge 12, [25]) := rfl
theorem c67_16 : xCD 67 16 = some (.aload_n 0, []) := rfl
theorem c67_17 : xCD 67 17 = some (.getfield 17, [4, 1, 88]) := rfl
theorem c67_20 : xCD 67 20 = some (.iconst 1, []) := rfl
theorem c67_21 : xCD 67 21 = some (.isub, []) := rfl
theorem c67_22 : xCD 67 22 = some (.goto 5, [27]) := rfl
theorem c67_25 : xCD 67 25 = some (.bipush 7, []) := rfl
theorem c67_27 : xCD 67 27 = some (.istore_n 2, []) := rfl
theorem c67_28 : xCD 67 28 = some (.aload_n 0, []) := rfl
theorem c67_29 : xCD 67 29 = some (.getfield 21, [4, 2, 89]) := rfl
theorem c67_32 : xCD 67 32 = some (.iconst 1, []) := rfl
theorem c67_33 : xCD 67 33 = some (.if_icmp .lt 12, [45]) := rfl
theorem c67_36 : xCD 67 36 = some (.aload_n 0, []) := rfl
theorem c67_37 : xCD 67 37 = some (.getfield 11, [4, 0, 87]) := rfl
theorem c67_40 : xCD 67 40 = some (.iload_n 2, []) := rfl
theorem c67_41 : xCD 67 41 = some (.aaload, []) := rfl
theorem c67_42 : xCD 67 42 = some (.ifnonnull 5, [47]) := rfl
theorem c67_45 : xCD 67 45 = some (.iconst 0, []) := rfl
theorem c67_46 : xCD 67 46 = some (.ireturn, []) := rfl
theorem c67_47 : xCD 67 47 = some (.aload_n 1, []) := rfl
theorem c67_48 : xCD 67 48 = some (.aload_n 0, []) := rfl
theorem c67_49 : xCD 67 49 = some (.getfield 11, [4, 0, 87]) := rfl
theorem c67_52 : xCD 67 52 = some (.iload_n 2, []) := rfl
theorem c67_53 : xCD 67 53 = some (.aaload, []) := rfl
theorem c67_54 : xCD 67 54 = some (.invokevirtual 25, [34, 1, 0, 286, 151, 17, 150, 152]) := rfl
theorem c67_57 : xCD 67 57 = some (.aload_n 0, []) := rfl
theorem c67_58 : xCD 67 58 = some (.iload_n 2, []) := rfl
theorem c67_59 : xCD 67 59 = some (.putfield 17, [4, 1, 88]) := rfl
theorem c67_62 : xCD 67 62 = some (.aload_n 0, []) := rfl
theorem c67_63 : xCD 67 63 = some (.dup, []) := rfl
theorem c67_64 : xCD 67 64 = some (.getfield 21, [4, 2, 89]) := rfl
theorem c67_67 : xCD 67 67 = some (.iconst 1, []) := rfl
theorem c67_68 : xCD 67 68 = some (.isub, []) := rfl
theorem c67_69 : xCD 67 69 = some (.putfield 21, [4, 2, 89]) := rfl
theorem c67_72 : xCD 67 72 = some (.iconst 1, []) := rfl
theorem c67_73 : xCD 67 73 = some (.ireturn, []) := rfl
theorem c102_0 : xCD 102 0 = some (.aload_n 0, []) := rfl
theorem c102_1 : xCD 102 1 = some (.invokespecial 1, [1, 639, 1, 2]) := rfl
theorem c102_4 : xCD 102 4 = some (.aload_n 0, []) := rfl
theorem c102_5 : xCD 102 5 = some (.bipush 81, []) := rfl
theorem c102_7 : xCD 102 7 = some (.newarray .int, [0, 43]) := rfl
theorem c102_9 : xCD 102 9 = some (.putfield 7, [7, 0, 640]) := rfl
theorem c102_12 : xCD 102 12 = some (.aload_n 0, []) := rfl
theorem c102_13 : xCD 102 13 = some (.bipush 81, []) := rfl
theorem c102_15 : xCD 102 15 = some (.newarray .int, [0, 43]) := rfl
theorem c102_17 : xCD 102 17 = some (.putfield 13, [7, 1, 641]) := rfl
theorem c102_20 : xCD 102 20 = some (.aload_n 0, []) := rfl
theorem c102_21 : xCD 102 21 = some (.bipush 111, []) := rfl
theorem c102_23 : xCD 102 23 = some (.newarray .int, [0, 43]) := rfl
theorem c102_25 : xCD 102 25 = some (.putfield 16, [7, 2, 642]) := rfl
theorem c102_28 : xCD 102 28 = some (.aload_n 0, []) := rfl
theorem c102_29 : xCD 102 29 = some (.bipush 111, []) := rfl
theorem c102_31 : xCD 102 31 = some (.newarray .int, [0, 43]) := rfl
theorem c102_33 : xCD 102 33 = some (.putfield 19, [7, 3, 643]) := rfl
theorem c102_36 : xCD 102 36 = some (.aload_n 0, []) := rfl
theorem c102_37 : xCD 102 37 = some (.sipush 888, []) := rfl
theorem c102_40 : xCD 102 40 = some (.newarray .int, [0, 43]) := rfl
theorem c102_42 : xCD 102 42 = some (.putfield 22, [7, 4, 644]) := rfl
theorem c102_45 : xCD 102 45 = some (.aload_n 0, []) := rfl
theorem c102_46 : xCD 102 46 = some (.sipush 222, []) := rfl
theorem c102_49 : xCD 102 49 = some (.newarray .int, [0, 43]) := rfl
theorem c102_51 : xCD 102 51 = some (.putfield 25, [7, 6, 645]) := rfl
theorem c102_54 : xCD 102 54 = some (.aload_n 0, []) := rfl
theorem c102_55 : xCD 102 55 = some (.sipush 200, []) := rfl
theorem c102_58 : xCD 102 58 = some (.newarray .int, [0, 43]) := rfl
theorem c102_60 : xCD 102 60 = some (.putfield 28, [7, 8, 646]) := rfl
theorem c102_63 : xCD 102 63 = some (.aload_n 0, []) := rfl
theorem c102_64 : xCD 102 64 = some (.bipush 12, []) := rfl
theorem c102_66 : xCD 102 66 = some (.newarray .int, [0, 43]) := rfl
theorem c102_68 : xCD 102 68 = some (.putfield 31, [7, 10, 647]) := rfl
theorem c102_71 : xCD 102 71 = some (.aload_n 0, []) := rfl
theorem c102_72 : xCD 102 72 = some (.iconst 4, []) := rfl
theorem c102_73 : xCD 102 73 = some (.newarray .int, [0, 43]) := rfl
theorem c102_75 : xCD 102 75 = some (.putfield 34, [7, 14, 648]) := rfl
theorem c102_78 : xCD 102 78 = some (.aload_n 0, []) := rfl
theorem c102_79 : xCD 102 79 = some (.iconst 3, []) := rfl
theorem c102_80 : xCD 102 80 = some (.newarray .int, [0, 43]) := rfl
theorem c102_82 : xCD 102 82 = some (.putfield 37, [7, 15, 649]) := rfl
theorem c102_85 : xCD 102 85 = some (.aload_n 0, []) := rfl
theorem c102_86 : xCD 102 86 = some (.iconst 3, []) := rfl
theorem c102_87 : xCD 102 87 = some (.newarray .int, [0, 43]) := rfl
theorem c102_89 : xCD 102 89 = some (.putfield 40, [7, 16, 650]) := rfl
theorem c102_92 : xCD 102 92 = some (.aload_n 0, []) := rfl
theorem c102_93 : xCD 102 93 = some (.invokevirtual 43, [103, 0, 0, 651, 653, 371, 652, 654]) := rfl
theorem c102_96 : xCD 102 96 = some (.aload_n 0, []) := rfl
theorem c102_97 : xCD 102 97 = some (.getfield 13, [7, 1, 641]) := rfl
theorem c102_100 : xCD 102 100 = some (.iconst 0, []) := rfl
theorem c102_101 : xCD 102 101 = some (.iconst 4, []) := rfl
theorem c102_102 : xCD 102 102 = some (.iastore, []) := rfl
theorem c102_103 : xCD 102 103 = some (.aload_n 0, []) := rfl
theorem c102_104 : xCD 102 104 = some (.getfield 13, [7, 1, 641]) := rfl
theorem c102_107 : xCD 102 107 = some (.iconst 1, []) := rfl
theorem c102_108 : xCD 102 108 = some (.iconst 5, []) := rfl
theorem c102_109 : xCD 102 109 = some (.iastore, []) := rfl
theorem c102_110 : xCD 102 110 = some (.aload_n 0, []) := rfl
theorem c102_111 : xCD 102 111 = some (.iconst 3, []) := rfl
theorem c102_112 : xCD 102 112 = some (.iconst 4, []) := rfl
theorem c102_113 : xCD 102 113 = some (.invokevirtual 46, [104, 2, 0, 655, 657, 371, 656, 658]) := rfl
theorem c102_116 : xCD 102 116 = some (.aload_n 0, []) := rfl
theorem c102_117 : xCD 102 117 = some (.bipush 8, []) := rfl
theorem c102_119 : xCD 102 119 = some (.iconst 1, []) := rfl
theorem c102_120 : xCD 102 120 = some (.invokevirtual 46, [104, 2, 0, 655, 657, 371, 656, 658]) := rfl
theorem c102_123 : xCD 102 123 = some (.aload_n 0, []) := rfl
theorem c102_124 : xCD 102 124 = some (.bipush 9, []) := rfl
theorem c102_126 : xCD 102 126 = some (.iconst 1, []) := rfl
theorem c102_127 : xCD 102 127 = some (.invokevirtual 46, [104, 2, 0, 655, 657, 371, 656, 658]) := rfl
theorem c102_130 : xCD 102 130 = some (.aload_n 0, []) := rfl
theorem c102_131 : xCD 102 131 = some (.bipush 12, []) := rfl
theorem c102_133 : xCD 102 133 = some (.iconst 5, []) := rfl
theorem c102_134 : xCD 102 134 = some (.invokevirtual 46, [104, 2, 0, 655, 657, 371, 656, 658]) := rfl
theorem c102_137 : xCD 102 137 = some (.aload_n 0, []) := rfl
theorem c102_138 : xCD 102 138 = some (.bipush 11, []) := rfl
theorem c102_140 : xCD 102 140 = some (.iconst 2, []) := rfl
theorem c102_141 : xCD 102 141 = some (.invokevirtual 46, [104, 2, 0, 655, 657, 371, 656, 658]) := rfl
theorem c102_144 : xCD 102 144 = some (.aload_n 0, []) := rfl
theorem c102_145 : xCD 102 145 = some (.bipush 13, []) := rfl
theorem c102_147 : xCD 102 147 = some (.bipush 7, []) := rfl
theorem c102_149 : xCD 102 149 = some (.invokevirtual 46, [104, 2, 0, 655, 657, 371, 656, 658]) := rfl
theorem c102_152 : xCD 102 152 = some (.aload_n 0, []) := rfl
theorem c102_153 : xCD 102 153 = some (.bipush 16, []) := rfl
theorem c102_155 : xCD 102 155 = some (.iconst 3, []) := rfl
theorem c102_156 : xCD 102 156 = some (.invokevirtual 46, [104, 2, 0, 655, 657, 371, 656, 658]) := rfl
theorem c102_159 : xCD 102 159 = some (.aload_n 0, []) := rfl
theorem c102_160 : xCD 102 160 = some (.bipush 18, []) := rfl
theorem c102_162 : xCD 102 162 = some (.iconst 1, []) := rfl
theorem c102_163 : xCD 102 163 = some (.invokevirtual 46, [104, 2, 0, 655, 657, 371, 656, 658]) := rfl
theorem c102_166 : xCD 102 166 = some (.aload_n 0, []) := rfl
theorem c102_167 : xCD 102 167 = some (.getfield 13, [7, 1, 641]) := rfl
theorem c102_170 : xCD 102 170 = some (.bipush 48, []) := rfl
theorem c102_172 : xCD 102 172 = some (.iconst 0, []) := rfl
theorem c102_173 : xCD 102 173 = some (.iastore, []) := rfl
theorem c102_174 : xCD 102 174 = some (.aload_n 0, []) := rfl
theorem c102_175 : xCD 102 175 = some (.getfield 13, [7, 1, 641]) := rfl
theorem c102_178 : xCD 102 178 = some (.bipush 47, []) := rfl
theorem c102_180 : xCD 102 180 = some (.iconst 4, []) := rfl
theorem c102_181 : xCD 102 181 = some (.iastore, []) := rfl
theorem c102_182 : xCD 102 182 = some (.aload_n 0, []) := rfl
theorem c102_183 : xCD 102 183 = some (.getfield 13, [7, 1, 641]) := rfl
theorem c102_186 : xCD 102 186 = some (.bipush 61, []) := rfl
theorem c102_188 : xCD 102 188 = some (.iconst 0, []) := rfl
theorem c102_189 : xCD 102 189 = some (.iastore, []) := rfl
theorem c102_190 : xCD 102 190 = some (.aload_n 0, []) := rfl
theorem c102_191 : xCD 102 191 = some (.getfield 13, [7, 1, 641]) := rfl
theorem c102_194 : xCD 102 194 = some (.bipush 62, []) := rfl
theorem c102_196 : xCD 102 196 = some (.iconst 3, []) := rfl
theorem c102_197 : xCD 102 197 = some (.iastore, []) := rfl
theorem c102_198 : xCD 102 198 = some (.aload_n 0, []) := rfl
theorem c102_199 : xCD 102 199 = some (.getfield 13, [7, 1, 641]) := rfl
theorem c102_202 : xCD 102 202 = some (.bipush 8, []) := rfl
theorem c102_204 : xCD 102 204 = some (.bipush 12, []) := rfl
theorem c102_206 : xCD 102 206 = some (.iastore, []) := rfl
theorem c102_207 : xCD 102 207 = some (.aload_n 0, []) := rfl
theorem c102_208 : xCD 102 208 = some (.getfield 13, [7, 1, 641]) := rfl
theorem c102_211 : xCD 102 211 = some (.bipush 7, []) := rfl
theorem c102_213 : xCD 102 213 = some (.iconst 2, []) := rfl
theorem c102_214 : xCD 102 214 = some (.iastore, []) := rfl
theorem c102_215 : xCD 102 215 = some (.aload_n 0, []) := rfl
theorem c102_216 : xCD 102 216 = some (.getfield 13, [7, 1, 641]) := rfl
theorem c102_219 : xCD 102 219 = some (.iconst 2, []) := rfl
theorem c102_220 : xCD 102 220 = some (.bipush 9, []) := rfl
theorem c102_222 : xCD 102 222 = some (.iastore, []) := rfl
theorem c102_223 : xCD 102 223 = some (.aload_n 0, []) := rfl
theorem c102_224 : xCD 102 224 = some (.getfield 13, [7, 1, 641]) := rfl
theorem c102_227 : xCD 102 227 = some (.iconst 3, []) := rfl
theorem c102_228 : xCD 102 228 = some (.iconst 3, []) := rfl
theorem c102_229 : xCD 102 229 = some (.iastore, []) := rfl
theorem c102_230 : xCD 102 230 = some (.aload_n 0, []) := rfl
theorem c102_231 : xCD 102 231 = some (.getfield 13, [7, 1, 641]) := rfl
theorem c102_234 : xCD 102 234 = some (.iconst 4, []) := rfl
theorem c102_235 : xCD 102 235 = some (.iconst 2, []) := rfl
theorem c102_236 : xCD 102 236 = some (.iastore, []) := rfl
theorem c102_237 : xCD 102 237 = some (.aload_n 0, []) := rfl
theorem c102_238 : xCD 102 238 = some (.getfield 13, [7, 1, 641]) := rfl
theorem c102_241 : xCD 102 241 = some (.iconst 5, []) := rfl
theorem c102_242 : xCD 102 242 = some (.iconst 4, []) := rfl
theorem c102_243 : xCD 102 243 = some (.iastore, []) := rfl
theorem c102_244 : xCD 102 244 = some (.aload_n 0, []) := rfl
theorem c102_245 : xCD 102 245 = some (.getfield 13, [7, 1, 641]) := rfl
theorem c102_248 : xCD 102 248 = some (.bipush 6, []) := rfl
theorem c102_250 : xCD 102 250 = some (.iconst 1, []) := rfl
theorem c102_251 : xCD 102 251 = some (.iastore, []) := rfl
theorem c102_252 : xCD 102 252 = some (.aload_n 0, []) := rfl
theorem c102_253 : xCD 102 253 = some (.invokevirtual 50, [105, 0, 0, 659, 661, 371, 660, 662]) := rfl
theorem c102_256 : xCD 102 256 = some (.return_, []) := rfl
set_option maxRecDepth 20000 in
theorem c86_0 : xCD 86 0 = some (.new 7, [0, 364, 365, 61]) := rfl
set_option maxRecDepth 20000 in
theorem c86_3 : xCD 86 3 = some (.dup, []) := rfl
set_option maxRecDepth 20000 in
theorem c86_4 : xCD 86 4 = some (.invokespecial 9, [0, 0, 0, 366, 368, 61, 367]) := rfl
set_option maxRecDepth 20000 in
theorem c86_7 : xCD 86 7 = some (.astore_n 1, []) := rfl
set_option maxRecDepth 20000 in
theorem c86_8 : xCD 86 8 = some (.new 10, [7, 369, 370, 371]) := rfl
set_option maxRecDepth 20000 in
theorem c86_11 : xCD 86 11 = some (.dup, []) := rfl
set_option maxRecDepth 20000 in
theorem c86_12 : xCD 86 12 = some (.invokespecial 12, [102, 0, 0, 372, 374, 371, 373]) := rfl
set_option maxRecDepth 20000 in
theorem c86_15 : xCD 86 15 = some (.astore_n 2, []) := rfl
set_option maxRecDepth 20000 in
theorem c86_16 : xCD 86 16 = some (.iconst 0, []) := rfl
set_option maxRecDepth 20000 in
theorem c86_17 : xCD 86 17 = some (.istore_n 3, []) := rfl
set_option maxRecDepth 20000 in
theorem c86_18 : xCD 86 18 = some (.iload_n 3, []) := rfl
set_option maxRecDepth 20000 in
theorem c86_19 : xCD 86 19 = some (.aload_n 0, []) := rfl
set_option maxRecDepth 20000 in
theorem c86_20 : xCD 86 20 = some (.arraylength, []) := rfl
set_option maxRecDepth 20000 in
theorem c86_21 : xCD 86 21 = some (.iconst 4, []) := rfl
set_option maxRecDepth 20000 in
theorem c86_22 : xCD 86 22 = some (.isub, []) := rfl
set_option maxRecDepth 20000 in
theorem c86_23 : xCD 86 23 = some (.if_icmp .gt 811, [834]) := rfl
set_option maxRecDepth 20000 in
theorem c86_26 : xCD 86 26 = some (.aload_n 0, []) := rfl
set_option maxRecDepth 20000 in
theorem c86_27 : xCD 86 27 = some (.iload_n 3, []) := rfl
set_option maxRecDepth 20000 in
theorem c86_28 : xCD 86 28 = some (.iaload, []) := rfl
set_option maxRecDepth 20000 in
theorem c86_29 : xCD 86 29 = some (.bipush 31, []) := rfl
set_option maxRecDepth 20000 in
theorem c86_31 : xCD 86 31 = some (.iand, []) := rfl
set_option maxRecDepth 20000 in
theorem c86_32 : xCD 86 32 = some (.tableswitch 796 0 29 #[136, 159, 172, 185, 198, 231, 254, 277, 310, 323, 346, 369, 392, 415, 428, 461, 474, 497, 520, 543, 576, 589, 612, 635, 658, 681, 704, 747, 760, 773], [828, 168, 191, 204, 217, 230, 263, 286, 309, 342, 355, 378, 401, 424, 447, 460, 493, 506, 529, 552, 575, 608, 621, 644, 667, 690, 713, 736, 779, 792, 805]) := rfl
set_option maxRecDepth 20000 in
theorem c86_168 : xCD 86 168 = some (.aload_n 1, []) := rfl
set_option maxRecDepth 20000 in
theorem c86_169 : xCD 86 169 = some (.aload_n 0, []) := rfl
set_option maxRecDepth 20000 in
theorem c86_170 : xCD 86 170 = some (.iload_n 3, []) := rfl
set_option maxRecDepth 20000 in
theorem c86_171 : xCD 86 171 = some (.iconst 1, []) := rfl
set_option maxRecDepth 20000 in
theorem c86_172 : xCD 86 172 = some (.iadd, []) := rfl
set_option maxRecDepth 20000 in
theorem c86_173 : xCD 86 173 = some (.iaload, []) := rfl
set_option maxRecDepth 20000 in
theorem c86_174 : xCD 86 174 = some (.invokevirtual 13, [37, 1, 0, 375, 377, 61, 376, 378]) := rfl
set_option maxRecDepth 20000 in
theorem c86_177 : xCD 86 177 = some (.aload_n 2, []) := rfl
set_option maxRecDepth 20000 in
theorem c86_178 : xCD 86 178 = some (.aload_n 0, []) := rfl
set_option maxRecDepth 20000 in
theorem c86_179 : xCD 86 179 = some (.iload_n 3, []) := rfl
set_option maxRecDepth 20000 in
theorem c86_180 : xCD 86 180 = some (.iconst 1, []) := rfl
set_option maxRecDepth 20000 in
theorem c86_181 : xCD 86 181 = some (.iadd, []) := rfl
set_option maxRecDepth 20000 in
theorem c86_182 : xCD 86 182 = some (.iaload, []) := rfl
set_option maxRecDepth 20000 in
theorem c86_183 : xCD 86 183 = some (.invokevirtual 17, [107, 1, 0, 379, 381, 371, 380, 382]) := rfl
set_option maxRecDepth 20000 in
theorem c86_186 : xCD 86 186 = some (.if_icmp .eq 642, [828]) := rfl
set_option maxRecDepth 20000 in
theorem c86_189 : xCD 86 189 = some (.iconst 0, []) := rfl
set_option maxRecDepth 20000 in
theorem c86_190 : xCD 86 190 = some (.ireturn, []) := rfl
set_option maxRecDepth 20000 in
theorem c86_191 : xCD 86 191 = some (.aload_n 1, []) := rfl
set_option maxRecDepth 20000 in
theorem c86_192 : xCD 86 192 = some (.invokevirtual 18, [38, 0, 0, 383, 385, 61, 384, 386]) := rfl
set_option maxRecDepth 20000 in
theorem c86_195 : xCD 86 195 = some (.aload_n 2, []) := rfl
set_option maxRecDepth 20000 in
theorem c86_196 : xCD 86 196 = some (.invokevirtual 22, [109, 0, 0, 387, 389, 371, 388, 390]) := rfl
set_option maxRecDepth 20000 in
theorem c86_199 : xCD 86 199 = some (.if_icmp .eq 629, [828]) := rfl
set_option maxRecDepth 20000 in
theorem c86_202 : xCD 86 202 = some (.iconst 0, []) := rfl
set_option maxRecDepth 20000 in
theorem c86_203 : xCD 86 203 = some (.ireturn, []) := rfl
set_option maxRecDepth 20000 in
theorem c86_204 : xCD 86 204 = some (.aload_n 1, []) := rfl
set_option maxRecDepth 20000 in
theorem c86_205 : xCD 86 205 = some (.invokevirtual 23, [39, 0, 0, 391, 393, 61, 392, 394]) := rfl
set_option maxRecDepth 20000 in
theorem c86_208 : xCD 86 208 = some (.aload_n 2, []) := rfl
set_option maxRecDepth 20000 in
theorem c86_209 : xCD 86 209 = some (.invokevirtual 26, [110, 0, 0, 395, 397, 371, 396, 398]) := rfl
set_option maxRecDepth 20000 in
theorem c86_212 : xCD 86 212 = some (.if_icmp .eq 616, [828]) := rfl
set_option maxRecDepth 20000 in
theorem c86_215 : xCD 86 215 = some (.iconst 0, []) := rfl
set_option maxRecDepth 20000 in
theorem c86_216 : xCD 86 216 = some (.ireturn, []) := rfl
set_option maxRecDepth 20000 in
theorem c86_217 : xCD 86 217 = some (.aload_n 1, []) := rfl
set_option maxRecDepth 20000 in
theorem c86_218 : xCD 86 218 = some (.invokevirtual 27, [40, 0, 0, 399, 401, 61, 400, 402]) := rfl
set_option maxRecDepth 20000 in
theorem c86_221 : xCD 86 221 = some (.aload_n 2, []) := rfl
set_option maxRecDepth 20000 in
theorem c86_222 : xCD 86 222 = some (.invokevirtual 30, [121, 0, 0, 403, 405, 371, 404, 406]) := rfl
set_option maxRecDepth 20000 in
theorem c86_225 : xCD 86 225 = some (.if_icmp .eq 603, [828]) := rfl
set_option maxRecDepth 20000 in
theorem c86_228 : xCD 86 228 = some (.iconst 0, []) := rfl
set_option maxRecDepth 20000 in
theorem c86_229 : xCD 86 229 = some (.ireturn, []) := rfl
set_option maxRecDepth 20000 in
theorem c86_230 : xCD 86 230 = some (.aload_n 1, []) := rfl
set_option maxRecDepth 20000 in
theorem c86_231 : xCD 86 231 = some (.aload_n 0, []) := rfl
set_option maxRecDepth 20000 in
theorem c86_232 : xCD 86 232 = some (.iload_n 3, []) := rfl
set_option maxRecDepth 20000 in
theorem c86_233 : xCD 86 233 = some (.iconst 1, []) := rfl
set_option maxRecDepth 20000 in
theorem c86_234 : xCD 86 234 = some (.iadd, []) := rfl
set_option maxRecDepth 20000 in
theorem c86_235 : xCD 86 235 = some (.iaload, []) := rfl
set_option maxRecDepth 20000 in
theorem c86_236 : xCD 86 236 = some (.aload_n 0, []) := rfl
set_option maxRecDepth 20000 in
theorem c86_237 : xCD 86 237 = some (.iload_n 3, []) := rfl
set_option maxRecDepth 20000 in
theorem c86_238 : xCD 86 238 = some (.iconst 2, []) := rfl
set_option maxRecDepth 20000 in
theorem c86_239 : xCD 86 239 = some (.iadd, []) := rfl
set_option maxRecDepth 20000 in
theorem c86_240 : xCD 86 240 = some (.iaload, []) := rfl
set_option maxRecDepth 20000 in
theorem c86_241 : xCD 86 241 = some (.invokevirtual 31, [41, 2, 0, 407, 409, 61, 408, 410]) := rfl
set_option maxRecDepth 20000 in
theorem c86_244 : xCD 86 244 = some (.aload_n 2, []) := rfl
set_option maxRecDepth 20000 in
theorem c86_245 : xCD 86 245 = some (.aload_n 0, []) := rfl
set_option maxRecDepth 20000 in
theorem c86_246 : xCD 86 246 = some (.iload_n 3, []) := rfl
set_option maxRecDepth 20000 in
theorem c86_247 : xCD 86 247 = some (.iconst 1, []) := rfl
set_option maxRecDepth 20000 in
theorem c86_248 : xCD 86 248 = some (.iadd, []) := rfl
set_option maxRecDepth 20000 in
theorem c86_249 : xCD 86 249 = some (.iaload, []) := rfl
set_option maxRecDepth 20000 in
theorem c86_250 : xCD 86 250 = some (.aload_n 0, []) := rfl
set_option maxRecDepth 20000 in
theorem c86_251 : xCD 86 251 = some (.iload_n 3, []) := rfl
set_option maxRecDepth 20000 in
theorem c86_252 : xCD 86 252 = some (.iconst 2, []) := rfl
set_option maxRecDepth 20000 in
theorem c86_253 : xCD 86 253 = some (.iadd, []) := rfl
set_option maxRecDepth 20000 in
theorem c86_254 : xCD 86 254 = some (.iaload, []) := rfl
set_option maxRecDepth 20000 in
theorem c86_255 : xCD 86 255 = some (.invokevirtual 35, [123, 2, 0, 411, 413, 371, 412, 414]) := rfl
set_option maxRecDepth 20000 in
theorem c86_258 : xCD 86 258 = some (.if_icmp .eq 570, [828]) := rfl
set_option maxRecDepth 20000 in
theorem c86_261 : xCD 86 261 = some (.iconst 0, []) := rfl
set_option maxRecDepth 20000 in
theorem c86_262 : xCD 86 262 = some (.ireturn, []) := rfl
set_option maxRecDepth 20000 in
theorem c86_263 : xCD 86 263 = some (.aload_n 1, []) := rfl
set_option maxRecDepth 20000 in
theorem c86_264 : xCD 86 264 = some (.aload_n 0, []) := rfl
set_option maxRecDepth 20000 in
theorem c86_265 : xCD 86 265 = some (.iload_n 3, []) := rfl
set_option maxRecDepth 20000 in
theorem c86_266 : xCD 86 266 = some (.iconst 1, []) := rfl
set_option maxRecDepth 20000 in
theorem c86_267 : xCD 86 267 = some (.iadd, []) := rfl
set_option maxRecDepth 20000 in
theorem c86_268 : xCD 86 268 = some (.iaload, []) := rfl
set_option maxRecDepth 20000 in
theorem c86_269 : xCD 86 269 = some (.invokevirtual 36, [50, 1, 0, 415, 417, 61, 416, 418]) := rfl
set_option maxRecDepth 20000 in
theorem c86_272 : xCD 86 272 = some (.aload_n 2, []) := rfl
set_option maxRecDepth 20000 in
theorem c86_273 : xCD 86 273 = some (.aload_n 0, []) := rfl
set_option maxRecDepth 20000 in
theorem c86_274 : xCD 86 274 = some (.iload_n 3, []) := rfl
set_option maxRecDepth 20000 in
theorem c86_275 : xCD 86 275 = some (.iconst 1, []) := rfl
set_option maxRecDepth 20000 in
theorem c86_276 : xCD 86 276 = some (.iadd, []) := rfl
set_option maxRecDepth 20000 in
theorem c86_277 : xCD 86 277 = some (.iaload, []) := rfl
set_option maxRecDepth 20000 in
theorem c86_278 : xCD 86 278 = some (.invokevirtual 39, [132, 1, 0, 419, 421, 371, 420, 422]) := rfl
set_option maxRecDepth 20000 in
theorem c86_281 : xCD 86 281 = some (.if_icmp .eq 547, [828]) := rfl
set_option maxRecDepth 20000 in
theorem c86_284 : xCD 86 284 = some (.iconst 0, []) := rfl
set_option maxRecDepth 20000 in
theorem c86_285 : xCD 86 285 = some (.ireturn, []) := rfl
set_option maxRecDepth 20000 in
theorem c86_286 : xCD 86 286 = some (.aload_n 1, []) := rfl
set_option maxRecDepth 20000 in
theorem c86_287 : xCD 86 287 = some (.aload_n 0, []) := rfl
set_option maxRecDepth 20000 in
theorem c86_288 : xCD 86 288 = some (.iload_n 3, []) := rfl
set_option maxRecDepth 20000 in
theorem c86_289 : xCD 86 289 = some (.iconst 1, []) := rfl
set_option maxRecDepth 20000 in
theorem c86_290 : xCD 86 290 = some (.iadd, []) := rfl
set_option maxRecDepth 20000 in
theorem c86_291 : xCD 86 291 = some (.iaload, []) := rfl
set_option maxRecDepth 20000 in
theorem c86_292 : xCD 86 292 = some (.invokevirtual 40, [56, 1, 0, 423, 425, 61, 424, 426]) := rfl
set_option maxRecDepth 20000 in
theorem c86_295 : xCD 86 295 = some (.aload_n 2, []) := rfl
set_option maxRecDepth 20000 in
theorem c86_296 : xCD 86 296 = some (.aload_n 0, []) := rfl
set_option maxRecDepth 20000 in
theorem c86_297 : xCD 86 297 = some (.iload_n 3, []) := rfl
set_option maxRecDepth 20000 in
theorem c86_298 : xCD 86 298 = some (.iconst 1, []) := rfl
set_option maxRecDepth 20000 in
theorem c86_299 : xCD 86 299 = some (.iadd, []) := rfl
set_option maxRecDepth 20000 in
theorem c86_300 : xCD 86 300 = some (.iaload, []) := rfl
set_option maxRecDepth 20000 in
theorem c86_301 : xCD 86 301 = some (.invokevirtual 43, [136, 1, 0, 427, 429, 371, 428, 430]) := rfl
set_option maxRecDepth 20000 in
theorem c86_304 : xCD 86 304 = some (.if_icmp .eq 524, [828]) := rfl
set_option maxRecDepth 20000 in
theorem c86_307 : xCD 86 307 = some (.iconst 0, []) := rfl
set_option maxRecDepth 20000 in
theorem c86_308 : xCD 86 308 = some (.ireturn, []) := rfl
set_option maxRecDepth 20000 in
theorem c86_309 : xCD 86 309 = some (.aload_n 1, []) := rfl
set_option maxRecDepth 20000 in
theorem c86_310 : xCD 86 310 = some (.aload_n 0, []) := rfl
set_option maxRecDepth 20000 in
theorem c86_311 : xCD 86 311 = some (.iload_n 3, []) := rfl
set_option maxRecDepth 20000 in
theorem c86_312 : xCD 86 312 = some (.iconst 1, []) := rfl
set_option maxRecDepth 20000 in
theorem c86_313 : xCD 86 313 = some (.iadd, []) := rfl
set_option maxRecDepth 20000 in
theorem c86_314 : xCD 86 314 = some (.iaload, []) := rfl
set_option maxRecDepth 20000 in
theorem c86_315 : xCD 86 315 = some (.aload_n 0, []) := rfl
set_option maxRecDepth 20000 in
theorem c86_316 : xCD 86 316 = some (.iload_n 3, []) := rfl
set_option maxRecDepth 20000 in
theorem c86_317 : xCD 86 317 = some (.iconst 2, []) := rfl
set_option maxRecDepth 20000 in
theorem c86_318 : xCD 86 318 = some (.iadd, []) := rfl
set_option maxRecDepth 20000 in
theorem c86_319 : xCD 86 319 = some (.iaload, []) := rfl
set_option maxRecDepth 20000 in
theorem c86_320 : xCD 86 320 = some (.invokevirtual 44, [58, 2, 0, 431, 433, 61, 432, 434]) := rfl
set_option maxRecDepth 20000 in
theorem c86_323 : xCD 86 323 = some (.aload_n 2, []) := rfl
set_option maxRecDepth 20000 in
theorem c86_324 : xCD 86 324 = some (.aload_n 0, []) := rfl
set_option maxRecDepth 20000 in
theorem c86_325 : xCD 86 325 = some (.iload_n 3, []) := rfl
set_option maxRecDepth 20000 in
theorem c86_326 : xCD 86 326 = some (.iconst 1, []) := rfl
set_option maxRecDepth 20000 in
theorem c86_327 : xCD 86 327 = some (.iadd, []) := rfl
set_option maxRecDepth 20000 in
theorem c86_328 : xCD 86 328 = some (.iaload, []) := rfl
set_option maxRecDepth 20000 in
theorem c86_329 : xCD 86 329 = some (.aload_n 0, []) := rfl
set_option maxRecDepth 20000 in
theorem c86_330 : xCD 86 330 = some (.iload_n 3, []) := rfl
set_option maxRecDepth 20000 in
theorem c86_331 : xCD 86 331 = some (.iconst 2, []) := rfl
set_option maxRecDepth 20000 in
theorem c86_332 : xCD 86 332 = some (.iadd, []) := rfl
set_option maxRecDepth 20000 in
theorem c86_333 : xCD 86 333 = some (.iaload, []) := rfl
set_option maxRecDepth 20000 in
theorem c86_334 : xCD 86 334 = some (.invokevirtual 47, [139, 2, 0, 435, 437, 371, 436, 438]) := rfl
set_option maxRecDepth 20000 in
theorem c86_337 : xCD 86 337 = some (.if_icmp .eq 491, [828]) := rfl
set_option maxRecDepth 20000 in
theorem c86_340 : xCD 86 340 = some (.iconst 0, []) := rfl
set_option maxRecDepth 20000 in
theorem c86_341 : xCD 86 341 = some (.ireturn, []) := rfl
set_option maxRecDepth 20000 in
theorem c86_342 : xCD 86 342 = some (.aload_n 1, []) := rfl
set_option maxRecDepth 20000 in
theorem c86_343 : xCD 86 343 = some (.invokevirtual 48, [59, 0, 0, 439, 441, 61, 440, 442]) := rfl
set_option maxRecDepth 20000 in
theorem c86_346 : xCD 86 346 = some (.aload_n 2, []) := rfl
set_option maxRecDepth 20000 in
theorem c86_347 : xCD 86 347 = some (.invokevirtual 51, [140, 0, 0, 443, 445, 371, 444, 446]) := rfl
set_option maxRecDepth 20000 in
theorem c86_350 : xCD 86 350 = some (.if_icmp .eq 478, [828]) := rfl
set_option maxRecDepth 20000 in
theorem c86_353 : xCD 86 353 = some (.iconst 0, []) := rfl
set_option maxRecDepth 20000 in
theorem c86_354 : xCD 86 354 = some (.ireturn, []) := rfl
set_option maxRecDepth 20000 in
theorem c86_355 : xCD 86 355 = some (.aload_n 1, []) := rfl
set_option maxRecDepth 20000 in
theorem c86_356 : xCD 86 356 = some (.aload_n 0, []) := rfl
set_option maxRecDepth 20000 in
theorem c86_357 : xCD 86 357 = some (.iload_n 3, []) := rfl
set_option maxRecDepth 20000 in
theorem c86_358 : xCD 86 358 = some (.iconst 1, []) := rfl
set_option maxRecDepth 20000 in
theorem c86_359 : xCD 86 359 = some (.iadd, []) := rfl
set_option maxRecDepth 20000 in
theorem c86_360 : xCD 86 360 = some (.iaload, []) := rfl
set_option maxRecDepth 20000 in
theorem c86_361 : xCD 86 361 = some (.invokevirtual 52, [61, 1, 0, 447, 449, 61, 448, 450]) := rfl
set_option maxRecDepth 20000 in
theorem c86_364 : xCD 86 364 = some (.aload_n 2, []) := rfl
set_option maxRecDepth 20000 in
theorem c86_365 : xCD 86 365 = some (.aload_n 0, []) := rfl
set_option maxRecDepth 20000 in
theorem c86_366 : xCD 86 366 = some (.iload_n 3, []) := rfl
set_option maxRecDepth 20000 in
theorem c86_367 : xCD 86 367 = some (.iconst 1, []) := rfl
set_option maxRecDepth 20000 in
theorem c86_368 : xCD 86 368 = some (.iadd, []) := rfl
set_option maxRecDepth 20000 in
theorem c86_369 : xCD 86 369 = some (.iaload, []) := rfl
set_option maxRecDepth 20000 in
theorem c86_370 : xCD 86 370 = some (.invokevirtual 55, [141, 1, 0, 451, 453, 371, 452, 454]) := rfl
set_option maxRecDepth 20000 in
theorem c86_373 : xCD 86 373 = some (.if_icmp .eq 455, [828]) := rfl
set_option maxRecDepth 20000 in
theorem c86_376 : xCD 86 376 = some (.iconst 0, []) := rfl
set_option maxRecDepth 20000 in
theorem c86_377 : xCD 86 377 = some (.ireturn, []) := rfl
set_option maxRecDepth 20000 in
theorem c86_378 : xCD 86 378 = some (.aload_n 1, []) := rfl
set_option maxRecDepth 20000 in
theorem c86_379 : xCD 86 379 = some (.aload_n 0, []) := rfl
set_option maxRecDepth 20000 in
theorem c86_380 : xCD 86 380 = some (.iload_n 3, []) := rfl
set_option maxRecDepth 20000 in
theorem c86_381 : xCD 86 381 = some (.iconst 1, []) := rfl
set_option maxRecDepth 20000 in
theorem c86_382 : xCD 86 382 = some (.iadd, []) := rfl
set_option maxRecDepth 20000 in
theorem c86_383 : xCD 86 383 = some (.iaload, []) := rfl
set_option maxRecDepth 20000 in
theorem c86_384 : xCD 86 384 = some (.invokevirtual 56, [62, 1, 0, 455, 457, 61, 456, 458]) := rfl
set_option maxRecDepth 20000 in
theorem c86_387 : xCD 86 387 = some (.aload_n 2, []) := rfl
set_option maxRecDepth 20000 in
theorem c86_388 : xCD 86 388 = some (.aload_n 0, []) := rfl
set_option maxRecDepth 20000 in
theorem c86_389 : xCD 86 389 = some (.iload_n 3, []) := rfl
set_option maxRecDepth 20000 in
theorem c86_390 : xCD 86 390 = some (.iconst 1, []) := rfl
set_option maxRecDepth 20000 in
theorem c86_391 : xCD 86 391 = some (.iadd, []) := rfl
set_option maxRecDepth 20000 in
theorem c86_392 : xCD 86 392 = some (.iaload, []) := rfl
set_option maxRecDepth 20000 in
theorem c86_393 : xCD 86 393 = some (.invokevirtual 59, [142, 1, 0, 459, 461, 371, 460, 462]) := rfl
set_option maxRecDepth 20000 in
theorem c86_396 : xCD 86 396 = some (.if_icmp .eq 432, [828]) := rfl
set_option maxRecDepth 20000 in
theorem c86_399 : xCD 86 399 = some (.iconst 0, []) := rfl
set_option maxRecDepth 20000 in
theorem c86_400 : xCD 86 400 = some (.ireturn, []) := rfl
set_option maxRecDepth 20000 in
theorem c86_401 : xCD 86 401 = some (.aload_n 1, []) := rfl
set_option maxRecDepth 20000 in
theorem c86_402 : xCD 86 402 = some (.aload_n 0, []) := rfl
set_option maxRecDepth 20000 in
theorem c86_403 : xCD 86 403 = some (.iload_n 3, []) := rfl
set_option maxRecDepth 20000 in
theorem c86_404 : xCD 86 404 = some (.iconst 1, []) := rfl
set_option maxRecDepth 20000 in
theorem c86_405 : xCD 86 405 = some (.iadd, []) := rfl
set_option maxRecDepth 20000 in
theorem c86_406 : xCD 86 406 = some (.iaload, []) := rfl
set_option maxRecDepth 20000 in
theorem c86_407 : xCD 86 407 = some (.invokevirtual 60, [63, 1, 0, 463, 465, 61, 464, 466]) := rfl
set_option maxRecDepth 20000 in
theorem c86_410 : xCD 86 410 = some (.aload_n 2, []) := rfl
set_option maxRecDepth 20000 in
theorem c86_411 : xCD 86 411 = some (.aload_n 0, []) := rfl
set_option maxRecDepth 20000 in
theorem c86_412 : xCD 86 412 = some (.iload_n 3, []) := rfl
set_option maxRecDepth 20000 in
theorem c86_413 : xCD 86 413 = some (.iconst 1, []) := rfl
set_option maxRecDepth 20000 in
theorem c86_414 : xCD 86 414 = some (.iadd, []) := rfl
set_option maxRecDepth 20000 in
theorem c86_415 : xCD 86 415 = some (.iaload, []) := rfl
set_option maxRecDepth 20000 in
theorem c86_416 : xCD 86 416 = some (.invokevirtual 63, [143, 1, 0, 467, 469, 371, 468, 470]) := rfl
set_option maxRecDepth 20000 in
theorem c86_419 : xCD 86 419 = some (.if_icmp .eq 409, [828]) := rfl
set_option maxRecDepth 20000 in
theorem c86_422 : xCD 86 422 = some (.iconst 0, []) := rfl
set_option maxRecDepth 20000 in
theorem c86_423 : xCD 86 423 = some (.ireturn, []) := rfl
set_option maxRecDepth 20000 in
theorem c86_424 : xCD 86 424 = some (.aload_n 1, []) := rfl
set_option maxRecDepth 20000 in
theorem c86_425 : xCD 86 425 = some (.aload_n 0, []) := rfl
set_option maxRecDepth 20000 in
theorem c86_426 : xCD 86 426 = some (.iload_n 3, []) := rfl
set_option maxRecDepth 20000 in
theorem c86_427 : xCD 86 427 = some (.iconst 1, []) := rfl
set_option maxRecDepth 20000 in
theorem c86_428 : xCD 86 428 = some (.iadd, []) := rfl
set_option maxRecDepth 20000 in
theorem c86_429 : xCD 86 429 = some (.iaload, []) := rfl
set_option maxRecDepth 20000 in
theorem c86_430 : xCD 86 430 = some (.invokevirtual 64, [64, 1, 0, 471, 473, 61, 472, 474]) := rfl
set_option maxRecDepth 20000 in
theorem c86_433 : xCD 86 433 = some (.aload_n 2, []) := rfl
set_option maxRecDepth 20000 in
theorem c86_434 : xCD 86 434 = some (.aload_n 0, []) := rfl
set_option maxRecDepth 20000 in
theorem c86_435 : xCD 86 435 = some (.iload_n 3, []) := rfl
set_option maxRecDepth 20000 in
theorem c86_436 : xCD 86 436 = some (.iconst 1, []) := rfl
set_option maxRecDepth 20000 in
theorem c86_437 : xCD 86 437 = some (.iadd, []) := rfl
set_option maxRecDepth 20000 in
theorem c86_438 : xCD 86 438 = some (.iaload, []) := rfl
set_option maxRecDepth 20000 in
theorem c86_439 : xCD 86 439 = some (.invokevirtual 67, [144, 1, 0, 475, 477, 371, 476, 478]) := rfl
set_option maxRecDepth 20000 in
theorem c86_442 : xCD 86 442 = some (.if_icmp .eq 386, [828]) := rfl
set_option maxRecDepth 20000 in
theorem c86_445 : xCD 86 445 = some (.iconst 0, []) := rfl
set_option maxRecDepth 20000 in
theorem c86_446 : xCD 86 446 = some (.ireturn, []) := rfl
set_option maxRecDepth 20000 in
theorem c86_447 : xCD 86 447 = some (.aload_n 1, []) := rfl
set_option maxRecDepth 20000 in
theorem c86_448 : xCD 86 448 = some (.invokevirtual 68, [66, 0, 0, 479, 481, 61, 480, 482]) := rfl
set_option maxRecDepth 20000 in
theorem c86_451 : xCD 86 451 = some (.aload_n 2, []) := rfl
set_option maxRecDepth 20000 in
theorem c86_452 : xCD 86 452 = some (.invokevirtual 71, [146, 0, 0, 483, 485, 371, 484, 486]) := rfl
set_option maxRecDepth 20000 in
theorem c86_455 : xCD 86 455 = some (.if_icmp .eq 373, [828]) := rfl
set_option maxRecDepth 20000 in
theorem c86_458 : xCD 86 458 = some (.iconst 0, []) := rfl
set_option maxRecDepth 20000 in
theorem c86_459 : xCD 86 459 = some (.ireturn, []) := rfl
set_option maxRecDepth 20000 in
theorem c86_460 : xCD 86 460 = some (.aload_n 1, []) := rfl
set_option maxRecDepth 20000 in
theorem c86_461 : xCD 86 461 = some (.aload_n 0, []) := rfl
set_option maxRecDepth 20000 in
theorem c86_462 : xCD 86 462 = some (.iload_n 3, []) := rfl
set_option maxRecDepth 20000 in
theorem c86_463 : xCD 86 463 = some (.iconst 1, []) := rfl
set_option maxRecDepth 20000 in
theorem c86_464 : xCD 86 464 = some (.iadd, []) := rfl
set_option maxRecDepth 20000 in
theorem c86_465 : xCD 86 465 = some (.iaload, []) := rfl
set_option maxRecDepth 20000 in
theorem c86_466 : xCD 86 466 = some (.aload_n 0, []) := rfl
set_option maxRecDepth 20000 in
theorem c86_467 : xCD 86 467 = some (.iload_n 3, []) := rfl
set_option maxRecDepth 20000 in
theorem c86_468 : xCD 86 468 = some (.iconst 2, []) := rfl
set_option maxRecDepth 20000 in
theorem c86_469 : xCD 86 469 = some (.iadd, []) := rfl
set_option maxRecDepth 20000 in
theorem c86_470 : xCD 86 470 = some (.iaload, []) := rfl
set_option maxRecDepth 20000 in
theorem c86_471 : xCD 86 471 = some (.invokevirtual 72, [68, 2, 0, 487, 489, 61, 488, 490]) := rfl
set_option maxRecDepth 20000 in
theorem c86_474 : xCD 86 474 = some (.aload_n 2, []) := rfl
set_option maxRecDepth 20000 in
theorem c86_475 : xCD 86 475 = some (.aload_n 0, []) := rfl
set_option maxRecDepth 20000 in
theorem c86_476 : xCD 86 476 = some (.iload_n 3, []) := rfl
set_option maxRecDepth 20000 in
theorem c86_477 : xCD 86 477 = some (.iconst 1, []) := rfl
set_option maxRecDepth 20000 in
theorem c86_478 : xCD 86 478 = some (.iadd, []) := rfl
set_option maxRecDepth 20000 in
theorem c86_479 : xCD 86 479 = some (.iaload, []) := rfl
set_option maxRecDepth 20000 in
theorem c86_480 : xCD 86 480 = some (.aload_n 0, []) := rfl
set_option maxRecDepth 20000 in
theorem c86_481 : xCD 86 481 = some (.iload_n 3, []) := rfl
set_option maxRecDepth 20000 in
theorem c86_482 : xCD 86 482 = some (.iconst 2, []) := rfl
set_option maxRecDepth 20000 in
theorem c86_483 : xCD 86 483 = some (.iadd, []) := rfl
set_option maxRecDepth 20000 in
theorem c86_484 : xCD 86 484 = some (.iaload, []) := rfl
set_option maxRecDepth 20000 in
theorem c86_485 : xCD 86 485 = some (.invokevirtual 75, [147, 2, 0, 491, 493, 371, 492, 494]) := rfl
set_option maxRecDepth 20000 in
theorem c86_488 : xCD 86 488 = some (.if_icmp .eq 340, [828]) := rfl
set_option maxRecDepth 20000 in
theorem c86_491 : xCD 86 491 = some (.iconst 0, []) := rfl
set_option maxRecDepth 20000 in
theorem c86_492 : xCD 86 492 = some (.ireturn, []) := rfl
set_option maxRecDepth 20000 in
theorem c86_493 : xCD 86 493 = some (.aload_n 1, []) := rfl
set_option maxRecDepth 20000 in
theorem c86_494 : xCD 86 494 = some (.invokevirtual 76, [70, 0, 0, 495, 497, 61, 496, 498]) := rfl
set_option maxRecDepth 20000 in
theorem c86_497 : xCD 86 497 = some (.aload_n 2, []) := rfl
set_option maxRecDepth 20000 in
theorem c86_498 : xCD 86 498 = some (.invokevirtual 79, [150, 0, 0, 499, 501, 371, 500, 502]) := rfl
set_option maxRecDepth 20000 in
theorem c86_501 : xCD 86 501 = some (.if_icmp .eq 327, [828]) := rfl
set_option maxRecDepth 20000 in
theorem c86_504 : xCD 86 504 = some (.iconst 0, []) := rfl
set_option maxRecDepth 20000 in
theorem c86_505 : xCD 86 505 = some (.ireturn, []) := rfl
set_option maxRecDepth 20000 in
theorem c86_506 : xCD 86 506 = some (.aload_n 1, []) := rfl
set_option maxRecDepth 20000 in
theorem c86_507 : xCD 86 507 = some (.aload_n 0, []) := rfl
set_option maxRecDepth 20000 in
theorem c86_508 : xCD 86 508 = some (.iload_n 3, []) := rfl
set_option maxRecDepth 20000 in
theorem c86_509 : xCD 86 509 = some (.iconst 1, []) := rfl
set_option maxRecDepth 20000 in
theorem c86_510 : xCD 86 510 = some (.iadd, []) := rfl
set_option maxRecDepth 20000 in
theorem c86_511 : xCD 86 511 = some (.iaload, []) := rfl
set_option maxRecDepth 20000 in
theorem c86_512 : xCD 86 512 = some (.invokevirtual 80, [71, 1, 0, 503, 505, 61, 504, 506]) := rfl
set_option maxRecDepth 20000 in
theorem c86_515 : xCD 86 515 = some (.aload_n 2, []) := rfl
set_option maxRecDepth 20000 in
theorem c86_516 : xCD 86 516 = some (.aload_n 0, []) := rfl
set_option maxRecDepth 20000 in
theorem c86_517 : xCD 86 517 = some (.iload_n 3, []) := rfl
set_option maxRecDepth 20000 in
theorem c86_518 : xCD 86 518 = some (.iconst 1, []) := rfl
set_option maxRecDepth 20000 in
theorem c86_519 : xCD 86 519 = some (.iadd, []) := rfl
set_option maxRecDepth 20000 in
theorem c86_520 : xCD 86 520 = some (.iaload, []) := rfl
set_option maxRecDepth 20000 in
theorem c86_521 : xCD 86 521 = some (.invokevirtual 83, [151, 1, 0, 507, 509, 371, 508, 510]) := rfl
set_option maxRecDepth 20000 in
theorem c86_524 : xCD 86 524 = some (.if_icmp .eq 304, [828]) := rfl
set_option maxRecDepth 20000 in
theorem c86_527 : xCD 86 527 = some (.iconst 0, []) := rfl
set_option maxRecDepth 20000 in
theorem c86_528 : xCD 86 528 = some (.ireturn, []) := rfl
set_option maxRecDepth 20000 in
theorem c86_529 : xCD 86 529 = some (.aload_n 1, []) := rfl
set_option maxRecDepth 20000 in
theorem c86_530 : xCD 86 530 = some (.aload_n 0, []) := rfl
set_option maxRecDepth 20000 in
theorem c86_531 : xCD 86 531 = some (.iload_n 3, []) := rfl
set_option maxRecDepth 20000 in
theorem c86_532 : xCD 86 532 = some (.iconst 1, []) := rfl
set_option maxRecDepth 20000 in
theorem c86_533 : xCD 86 533 = some (.iadd, []) := rfl
set_option maxRecDepth 20000 in
theorem c86_534 : xCD 86 534 = some (.iaload, []) := rfl
set_option maxRecDepth 20000 in
theorem c86_535 : xCD 86 535 = some (.invokevirtual 84, [80, 1, 0, 511, 513, 61, 512, 514]) := rfl
set_option maxRecDepth 20000 in
theorem c86_538 : xCD 86 538 = some (.aload_n 2, []) := rfl
set_option maxRecDepth 20000 in
theorem c86_539 : xCD 86 539 = some (.aload_n 0, []) := rfl
set_option maxRecDepth 20000 in
theorem c86_540 : xCD 86 540 = some (.iload_n 3, []) := rfl
set_option maxRecDepth 20000 in
theorem c86_541 : xCD 86 541 = some (.iconst 1, []) := rfl
set_option maxRecDepth 20000 in
theorem c86_542 : xCD 86 542 = some (.iadd, []) := rfl
set_option maxRecDepth 20000 in
theorem c86_543 : xCD 86 543 = some (.iaload, []) := rfl
set_option maxRecDepth 20000 in
theorem c86_544 : xCD 86 544 = some (.invokevirtual 87, [155, 1, 0, 515, 517, 371, 516, 518]) := rfl
set_option maxRecDepth 20000 in
theorem c86_547 : xCD 86 547 = some (.if_icmp .eq 281, [828]) := rfl
set_option maxRecDepth 20000 in
theorem c86_550 : xCD 86 550 = some (.iconst 0, []) := rfl
set_option maxRecDepth 20000 in
theorem c86_551 : xCD 86 551 = some (.ireturn, []) := rfl
set_option maxRecDepth 20000 in
theorem c86_552 : xCD 86 552 = some (.aload_n 1, []) := rfl
set_option maxRecDepth 20000 in
theorem c86_553 : xCD 86 553 = some (.aload_n 0, []) := rfl
set_option maxRecDepth 20000 in
theorem c86_554 : xCD 86 554 = some (.iload_n 3, []) := rfl
set_option maxRecDepth 20000 in
theorem c86_555 : xCD 86 555 = some (.iconst 1, []) := rfl
set_option maxRecDepth 20000 in
theorem c86_556 : xCD 86 556 = some (.iadd, []) := rfl
set_option maxRecDepth 20000 in
theorem c86_557 : xCD 86 557 = some (.iaload, []) := rfl
set_option maxRecDepth 20000 in
theorem c86_558 : xCD 86 558 = some (.invokevirtual 88, [82, 1, 0, 519, 521, 61, 520, 522]) := rfl
set_option maxRecDepth 20000 in
theorem c86_561 : xCD 86 561 = some (.aload_n 2, []) := rfl
set_option maxRecDepth 20000 in
theorem c86_562 : xCD 86 562 = some (.aload_n 0, []) := rfl
set_option maxRecDepth 20000 in
theorem c86_563 : xCD 86 563 = some (.iload_n 3, []) := rfl
set_option maxRecDepth 20000 in
theorem c86_564 : xCD 86 564 = some (.iconst 1, []) := rfl
set_option maxRecDepth 20000 in
theorem c86_565 : xCD 86 565 = some (.iadd, []) := rfl
set_option maxRecDepth 20000 in
theorem c86_566 : xCD 86 566 = some (.iaload, []) := rfl
set_option maxRecDepth 20000 in
theorem c86_567 : xCD 86 567 = some (.invokevirtual 91, [156, 1, 0, 523, 525, 371, 524, 526]) := rfl
set_option maxRecDepth 20000 in
theorem c86_570 : xCD 86 570 = some (.if_icmp .eq 258, [828]) := rfl
set_option maxRecDepth 20000 in
theorem c86_573 : xCD 86 573 = some (.iconst 0, []) := rfl
set_option maxRecDepth 20000 in
theorem c86_574 : xCD 86 574 = some (.ireturn, []) := rfl
set_option maxRecDepth 20000 in
theorem c86_575 : xCD 86 575 = some (.aload_n 1, []) := rfl
set_option maxRecDepth 20000 in
theorem c86_576 : xCD 86 576 = some (.aload_n 0, []) := rfl
set_option maxRecDepth 20000 in
theorem c86_577 : xCD 86 577 = some (.iload_n 3, []) := rfl
set_option maxRecDepth 20000 in
theorem c86_578 : xCD 86 578 = some (.iconst 1, []) := rfl
set_option maxRecDepth 20000 in
theorem c86_579 : xCD 86 579 = some (.iadd, []) := rfl
set_option maxRecDepth 20000 in
theorem c86_580 : xCD 86 580 = some (.iaload, []) := rfl
set_option maxRecDepth 20000 in
theorem c86_581 : xCD 86 581 = some (.aload_n 0, []) := rfl
set_option maxRecDepth 20000 in
theorem c86_582 : xCD 86 582 = some (.iload_n 3, []) := rfl
set_option maxRecDepth 20000 in
theorem c86_583 : xCD 86 583 = some (.iconst 2, []) := rfl
set_option maxRecDepth 20000 in
theorem c86_584 : xCD 86 584 = some (.iadd, []) := rfl
set_option maxRecDepth 20000 in
theorem c86_585 : xCD 86 585 = some (.iaload, []) := rfl
set_option maxRecDepth 20000 in
theorem c86_586 : xCD 86 586 = some (.invokevirtual 92, [83, 2, 0, 527, 529, 61, 528, 530]) := rfl
set_option maxRecDepth 20000 in
theorem c86_589 : xCD 86 589 = some (.aload_n 2, []) := rfl
set_option maxRecDepth 20000 in
theorem c86_590 : xCD 86 590 = some (.aload_n 0, []) := rfl
set_option maxRecDepth 20000 in
theorem c86_591 : xCD 86 591 = some (.iload_n 3, []) := rfl
set_option maxRecDepth 20000 in
theorem c86_592 : xCD 86 592 = some (.iconst 1, []) := rfl
set_option maxRecDepth 20000 in
theorem c86_593 : xCD 86 593 = some (.iadd, []) := rfl
set_option maxRecDepth 20000 in
theorem c86_594 : xCD 86 594 = some (.iaload, []) := rfl
set_option maxRecDepth 20000 in
theorem c86_595 : xCD 86 595 = some (.aload_n 0, []) := rfl
set_option maxRecDepth 20000 in
theorem c86_596 : xCD 86 596 = some (.iload_n 3, []) := rfl
set_option maxRecDepth 20000 in
theorem c86_597 : xCD 86 597 = some (.iconst 2, []) := rfl
set_option maxRecDepth 20000 in
theorem c86_598 : xCD 86 598 = some (.iadd, []) := rfl
set_option maxRecDepth 20000 in
theorem c86_599 : xCD 86 599 = some (.iaload, []) := rfl
set_option maxRecDepth 20000 in
theorem c86_600 : xCD 86 600 = some (.invokevirtual 95, [157, 2, 0, 531, 533, 371, 532, 534]) := rfl
set_option maxRecDepth 20000 in
theorem c86_603 : xCD 86 603 = some (.if_icmp .eq 225, [828]) := rfl
set_option maxRecDepth 20000 in
theorem c86_606 : xCD 86 606 = some (.iconst 0, []) := rfl
set_option maxRecDepth 20000 in
theorem c86_607 : xCD 86 607 = some (.ireturn, []) := rfl
set_option maxRecDepth 20000 in
theorem c86_608 : xCD 86 608 = some (.aload_n 1, []) := rfl
set_option maxRecDepth 20000 in
theorem c86_609 : xCD 86 609 = some (.invokevirtual 96, [84, 0, 0, 535, 537, 61, 536, 538]) := rfl
set_option maxRecDepth 20000 in
theorem c86_612 : xCD 86 612 = some (.aload_n 2, []) := rfl
set_option maxRecDepth 20000 in
theorem c86_613 : xCD 86 613 = some (.invokevirtual 99, [158, 0, 0, 539, 541, 371, 540, 542]) := rfl
set_option maxRecDepth 20000 in
theorem c86_616 : xCD 86 616 = some (.if_icmp .eq 212, [828]) := rfl
set_option maxRecDepth 20000 in
theorem c86_619 : xCD 86 619 = some (.iconst 0, []) := rfl
set_option maxRecDepth 20000 in
theorem c86_620 : xCD 86 620 = some (.ireturn, []) := rfl
set_option maxRecDepth 20000 in
theorem c86_621 : xCD 86 621 = some (.aload_n 1, []) := rfl
set_option maxRecDepth 20000 in
theorem c86_622 : xCD 86 622 = some (.aload_n 0, []) := rfl
set_option maxRecDepth 20000 in
theorem c86_623 : xCD 86 623 = some (.iload_n 3, []) := rfl
set_option maxRecDepth 20000 in
theorem c86_624 : xCD 86 624 = some (.iconst 1, []) := rfl
set_option maxRecDepth 20000 in
theorem c86_625 : xCD 86 625 = some (.iadd, []) := rfl
set_option maxRecDepth 20000 in
theorem c86_626 : xCD 86 626 = some (.iaload, []) := rfl
set_option maxRecDepth 20000 in
theorem c86_627 : xCD 86 627 = some (.invokevirtual 100, [85, 1, 0, 543, 545, 61, 544, 546]) := rfl
set_option maxRecDepth 20000 in
theorem c86_630 : xCD 86 630 = some (.aload_n 2, []) := rfl
set_option maxRecDepth 20000 in
theorem c86_631 : xCD 86 631 = some (.aload_n 0, []) := rfl
set_option maxRecDepth 20000 in
theorem c86_632 : xCD 86 632 = some (.iload_n 3, []) := rfl
set_option maxRecDepth 20000 in
theorem c86_633 : xCD 86 633 = some (.iconst 1, []) := rfl
set_option maxRecDepth 20000 in
theorem c86_634 : xCD 86 634 = some (.iadd, []) := rfl
set_option maxRecDepth 20000 in
theorem c86_635 : xCD 86 635 = some (.iaload, []) := rfl
set_option maxRecDepth 20000 in
theorem c86_636 : xCD 86 636 = some (.invokevirtual 103, [159, 1, 0, 547, 549, 371, 548, 550]) := rfl
set_option maxRecDepth 20000 in
theorem c86_639 : xCD 86 639 = some (.if_icmp .eq 189, [828]) := rfl
set_option maxRecDepth 20000 in
theorem c86_642 : xCD 86 642 = some (.iconst 0, []) := rfl
set_option maxRecDepth 20000 in
theorem c86_643 : xCD 86 643 = some (.ireturn, []) := rfl
set_option maxRecDepth 20000 in
theorem c86_644 : xCD 86 644 = some (.aload_n 1, []) := rfl
set_option maxRecDepth 20000 in
theorem c86_645 : xCD 86 645 = some (.aload_n 0, []) := rfl
set_option maxRecDepth 20000 in
theorem c86_646 : xCD 86 646 = some (.iload_n 3, []) := rfl
set_option maxRecDepth 20000 in
theorem c86_647 : xCD 86 647 = some (.iconst 1, []) := rfl
set_option maxRecDepth 20000 in
theorem c86_648 : xCD 86 648 = some (.iadd, []) := rfl
set_option maxRecDepth 20000 in
theorem c86_649 : xCD 86 649 = some (.iaload, []) := rfl
set_option maxRecDepth 20000 in
theorem c86_650 : xCD 86 650 = some (.invokevirtual 104, [89, 1, 0, 551, 553, 61, 552, 554]) := rfl
set_option maxRecDepth 20000 in
theorem c86_653 : xCD 86 653 = some (.aload_n 2, []) := rfl
set_option maxRecDepth 20000 in
theorem c86_654 : xCD 86 654 = some (.aload_n 0, []) := rfl
set_option maxRecDepth 20000 in
theorem c86_655 : xCD 86 655 = some (.iload_n 3, []) := rfl
set_option maxRecDepth 20000 in
theorem c86_656 : xCD 86 656 = some (.iconst 1, []) := rfl
set_option maxRecDepth 20000 in
theorem c86_657 : xCD 86 657 = some (.iadd, []) := rfl
set_option maxRecDepth 20000 in
theorem c86_658 : xCD 86 658 = some (.iaload, []) := rfl
set_option maxRecDepth 20000 in
theorem c86_659 : xCD 86 659 = some (.invokevirtual 107, [162, 1, 0, 555, 557, 371, 556, 558]) := rfl
set_option maxRecDepth 20000 in
theorem c86_662 : xCD 86 662 = some (.if_icmp .eq 166, [828]) := rfl
set_option maxRecDepth 20000 in
theorem c86_665 : xCD 86 665 = some (.iconst 0, []) := rfl
set_option maxRecDepth 20000 in
theorem c86_666 : xCD 86 666 = some (.ireturn, []) := rfl
set_option maxRecDepth 20000 in
theorem c86_667 : xCD 86 667 = some (.aload_n 1, []) := rfl
set_option maxRecDepth 20000 in
theorem c86_668 : xCD 86 668 = some (.aload_n 0, []) := rfl
set_option maxRecDepth 20000 in
theorem c86_669 : xCD 86 669 = some (.iload_n 3, []) := rfl
set_option maxRecDepth 20000 in
theorem c86_670 : xCD 86 670 = some (.iconst 1, []) := rfl
set_option maxRecDepth 20000 in
theorem c86_671 : xCD 86 671 = some (.iadd, []) := rfl
set_option maxRecDepth 20000 in
theorem c86_672 : xCD 86 672 = some (.iaload, []) := rfl
set_option maxRecDepth 20000 in
theorem c86_673 : xCD 86 673 = some (.invokevirtual 108, [90, 1, 0, 559, 561, 61, 560, 562]) := rfl
set_option maxRecDepth 20000 in
theorem c86_676 : xCD 86 676 = some (.aload_n 2, []) := rfl
set_option maxRecDepth 20000 in
theorem c86_677 : xCD 86 677 = some (.aload_n 0, []) := rfl
set_option maxRecDepth 20000 in
theorem c86_678 : xCD 86 678 = some (.iload_n 3, []) := rfl
set_option maxRecDepth 20000 in
theorem c86_679 : xCD 86 679 = some (.iconst 1, []) := rfl
set_option maxRecDepth 20000 in
theorem c86_680 : xCD 86 680 = some (.iadd, []) := rfl
set_option maxRecDepth 20000 in
theorem c86_681 : xCD 86 681 = some (.iaload, []) := rfl
set_option maxRecDepth 20000 in
theorem c86_682 : xCD 86 682 = some (.invokevirtual 111, [163, 1, 0, 563, 565, 371, 564, 566]) := rfl
set_option maxRecDepth 20000 in
theorem c86_685 : xCD 86 685 = some (.if_icmp .eq 143, [828]) := rfl
set_option maxRecDepth 20000 in
theorem c86_688 : xCD 86 688 = some (.iconst 0, []) := rfl
set_option maxRecDepth 20000 in
theorem c86_689 : xCD 86 689 = some (.ireturn, []) := rfl
set_option maxRecDepth 20000 in
theorem c86_690 : xCD 86 690 = some (.aload_n 1, []) := rfl
set_option maxRecDepth 20000 in
theorem c86_691 : xCD 86 691 = some (.aload_n 0, []) := rfl
set_option maxRecDepth 20000 in
theorem c86_692 : xCD 86 692 = some (.iload_n 3, []) := rfl
set_option maxRecDepth 20000 in
theorem c86_693 : xCD 86 693 = some (.iconst 1, []) := rfl
set_option maxRecDepth 20000 in
theorem c86_694 : xCD 86 694 = some (.iadd, []) := rfl
set_option maxRecDepth 20000 in
theorem c86_695 : xCD 86 695 = some (.iaload, []) := rfl
set_option maxRecDepth 20000 in
theorem c86_696 : xCD 86 696 = some (.invokevirtual 112, [91, 1, 0, 567, 569, 61, 568, 570]) := rfl
set_option maxRecDepth 20000 in
theorem c86_699 : xCD 86 699 = some (.aload_n 2, []) := rfl
set_option maxRecDepth 20000 in
theorem c86_700 : xCD 86 700 = some (.aload_n 0, []) := rfl
set_option maxRecDepth 20000 in
theorem c86_701 : xCD 86 701 = some (.iload_n 3, []) := rfl
set_option maxRecDepth 20000 in
theorem c86_702 : xCD 86 702 = some (.iconst 1, []) := rfl
set_option maxRecDepth 20000 in
theorem c86_703 : xCD 86 703 = some (.iadd, []) := rfl
set_option maxRecDepth 20000 in
theorem c86_704 : xCD 86 704 = some (.iaload, []) := rfl
set_option maxRecDepth 20000 in
theorem c86_705 : xCD 86 705 = some (.invokevirtual 115, [164, 1, 0, 571, 573, 371, 572, 574]) := rfl
set_option maxRecDepth 20000 in
theorem c86_708 : xCD 86 708 = some (.if_icmp .eq 120, [828]) := rfl
set_option maxRecDepth 20000 in
theorem c86_711 : xCD 86 711 = some (.iconst 0, []) := rfl
set_option maxRecDepth 20000 in
theorem c86_712 : xCD 86 712 = some (.ireturn, []) := rfl
set_option maxRecDepth 20000 in
theorem c86_713 : xCD 86 713 = some (.aload_n 1, []) := rfl
set_option maxRecDepth 20000 in
theorem c86_714 : xCD 86 714 = some (.aload_n 0, []) := rfl
set_option maxRecDepth 20000 in
theorem c86_715 : xCD 86 715 = some (.iload_n 3, []) := rfl
set_option maxRecDepth 20000 in
theorem c86_716 : xCD 86 716 = some (.iconst 1, []) := rfl
set_option maxRecDepth 20000 in
theorem c86_717 : xCD 86 717 = some (.iadd, []) := rfl
set_option maxRecDepth 20000 in
theorem c86_718 : xCD 86 718 = some (.iaload, []) := rfl
set_option maxRecDepth 20000 in
theorem c86_719 : xCD 86 719 = some (.invokevirtual 116, [93, 1, 0, 575, 577, 61, 576, 578]) := rfl
set_option maxRecDepth 20000 in
theorem c86_722 : xCD 86 722 = some (.aload_n 2, []) := rfl
set_option maxRecDepth 20000 in
theorem c86_723 : xCD 86 723 = some (.aload_n 0, []) := rfl
set_option maxRecDepth 20000 in
theorem c86_724 : xCD 86 724 = some (.iload_n 3, []) := rfl
set_option maxRecDepth 20000 in
theorem c86_725 : xCD 86 725 = some (.iconst 1, []) := rfl
set_option maxRecDepth 20000 in
theorem c86_726 : xCD 86 726 = some (.iadd, []) := rfl
set_option maxRecDepth 20000 in
theorem c86_727 : xCD 86 727 = some (.iaload, []) := rfl
set_option maxRecDepth 20000 in
theorem c86_728 : xCD 86 728 = some (.invokevirtual 119, [166, 1, 0, 579, 581, 371, 580, 582]) := rfl
set_option maxRecDepth 20000 in
theorem c86_731 : xCD 86 731 = some (.if_icmp .eq 97, [828]) := rfl
set_option maxRecDepth 20000 in
theorem c86_734 : xCD 86 734 = some (.iconst 0, []) := rfl
set_option maxRecDepth 20000 in
theorem c86_735 : xCD 86 735 = some (.ireturn, []) := rfl
set_option maxRecDepth 20000 in
theorem c86_736 : xCD 86 736 = some (.aload_n 1, []) := rfl
set_option maxRecDepth 20000 in
theorem c86_737 : xCD 86 737 = some (.aload_n 0, []) := rfl
set_option maxRecDepth 20000 in
theorem c86_738 : xCD 86 738 = some (.iload_n 3, []) := rfl
set_option maxRecDepth 20000 in
theorem c86_739 : xCD 86 739 = some (.iconst 1, []) := rfl
set_option maxRecDepth 20000 in
theorem c86_740 : xCD 86 740 = some (.iadd, []) := rfl
set_option maxRecDepth 20000 in
theorem c86_741 : xCD 86 741 = some (.iaload, []) := rfl
set_option maxRecDepth 20000 in
theorem c86_742 : xCD 86 742 = some (.aload_n 0, []) := rfl
set_option maxRecDepth 20000 in
theorem c86_743 : xCD 86 743 = some (.iload_n 3, []) := rfl
set_option maxRecDepth 20000 in
theorem c86_744 : xCD 86 744 = some (.iconst 2, []) := rfl
set_option maxRecDepth 20000 in
theorem c86_745 : xCD 86 745 = some (.iadd, []) := rfl
set_option maxRecDepth 20000 in
theorem c86_746 : xCD 86 746 = some (.iaload, []) := rfl
set_option maxRecDepth 20000 in
theorem c86_747 : xCD 86 747 = some (.aload_n 0, []) := rfl
set_option maxRecDepth 20000 in
theorem c86_748 : xCD 86 748 = some (.iload_n 3, []) := rfl
set_option maxRecDepth 20000 in
theorem c86_749 : xCD 86 749 = some (.iconst 3, []) := rfl
set_option maxRecDepth 20000 in
theorem c86_750 : xCD 86 750 = some (.iadd, []) := rfl
set_option maxRecDepth 20000 in
theorem c86_751 : xCD 86 751 = some (.iaload, []) := rfl
set_option maxRecDepth 20000 in
theorem c86_752 : xCD 86 752 = some (.invokevirtual 120, [95, 3, 0, 583, 585, 61, 584, 586]) := rfl
set_option maxRecDepth 20000 in
theorem c86_755 : xCD 86 755 = some (.aload_n 2, []) := rfl
set_option maxRecDepth 20000 in
theorem c86_756 : xCD 86 756 = some (.aload_n 0, []) := rfl
set_option maxRecDepth 20000 in
theorem c86_757 : xCD 86 757 = some (.iload_n 3, []) := rfl
set_option maxRecDepth 20000 in
theorem c86_758 : xCD 86 758 = some (.iconst 1, []) := rfl
set_option maxRecDepth 20000 in
theorem c86_759 : xCD 86 759 = some (.iadd, []) := rfl
set_option maxRecDepth 20000 in
theorem c86_760 : xCD 86 760 = some (.iaload, []) := rfl
set_option maxRecDepth 20000 in
theorem c86_761 : xCD 86 761 = some (.aload_n 0, []) := rfl
set_option maxRecDepth 20000 in
theorem c86_762 : xCD 86 762 = some (.iload_n 3, []) := rfl
set_option maxRecDepth 20000 in
theorem c86_763 : xCD 86 763 = some (.iconst 2, []) := rfl
set_option maxRecDepth 20000 in
theorem c86_764 : xCD 86 764 = some (.iadd, []) := rfl
set_option maxRecDepth 20000 in
theorem c86_765 : xCD 86 765 = some (.iaload, []) := rfl
set_option maxRecDepth 20000 in
theorem c86_766 : xCD 86 766 = some (.aload_n 0, []) := rfl
set_option maxRecDepth 20000 in
theorem c86_767 : xCD 86 767 = some (.iload_n 3, []) := rfl
set_option maxRecDepth 20000 in
theorem c86_768 : xCD 86 768 = some (.iconst 3, []) := rfl
set_option maxRecDepth 20000 in
theorem c86_769 : xCD 86 769 = some (.iadd, []) := rfl
set_option maxRecDepth 20000 in
theorem c86_770 : xCD 86 770 = some (.iaload, []) := rfl
set_option maxRecDepth 20000 in
theorem c86_771 : xCD 86 771 = some (.invokevirtual 124, [167, 3, 0, 587, 589, 371, 588, 590]) := rfl
set_option maxRecDepth 20000 in
theorem c86_774 : xCD 86 774 = some (.if_icmp .eq 54, [828]) := rfl
set_option maxRecDepth 20000 in
theorem c86_777 : xCD 86 777 = some (.iconst 0, []) := rfl
set_option maxRecDepth 20000 in
theorem c86_778 : xCD 86 778 = some (.ireturn, []) := rfl
set_option maxRecDepth 20000 in
theorem c86_779 : xCD 86 779 = some (.aload_n 1, []) := rfl
set_option maxRecDepth 20000 in
theorem c86_780 : xCD 86 780 = some (.invokevirtual 125, [98, 0, 0, 591, 593, 61, 592, 594]) := rfl
set_option maxRecDepth 20000 in
theorem c86_783 : xCD 86 783 = some (.aload_n 2, []) := rfl
set_option maxRecDepth 20000 in
theorem c86_784 : xCD 86 784 = some (.invokevirtual 128, [168, 0, 0, 595, 597, 371, 596, 598]) := rfl
set_option maxRecDepth 20000 in
theorem c86_787 : xCD 86 787 = some (.if_icmp .eq 41, [828]) := rfl
set_option maxRecDepth 20000 in
theorem c86_790 : xCD 86 790 = some (.iconst 0, []) := rfl
set_option maxRecDepth 20000 in
theorem c86_791 : xCD 86 791 = some (.ireturn, []) := rfl
set_option maxRecDepth 20000 in
theorem c86_792 : xCD 86 792 = some (.aload_n 1, []) := rfl
set_option maxRecDepth 20000 in
theorem c86_793 : xCD 86 793 = some (.invokevirtual 129, [99, 0, 0, 599, 601, 61, 600, 602]) := rfl
set_option maxRecDepth 20000 in
theorem c86_796 : xCD 86 796 = some (.aload_n 2, []) := rfl
set_option maxRecDepth 20000 in
theorem c86_797 : xCD 86 797 = some (.invokevirtual 132, [169, 0, 0, 603, 605, 371, 604, 606]) := rfl
set_option maxRecDepth 20000 in
theorem c86_800 : xCD 86 800 = some (.if_icmp .eq 28, [828]) := rfl
set_option maxRecDepth 20000 in
theorem c86_803 : xCD 86 803 = some (.iconst 0, []) := rfl
set_option maxRecDepth 20000 in
theorem c86_804 : xCD 86 804 = some (.ireturn, []) := rfl
set_option maxRecDepth 20000 in
theorem c86_805 : xCD 86 805 = some (.aload_n 1, []) := rfl
set_option maxRecDepth 20000 in
theorem c86_806 : xCD 86 806 = some (.aload_n 0, []) := rfl
set_option maxRecDepth 20000 in
theorem c86_807 : xCD 86 807 = some (.iload_n 3, []) := rfl
set_option maxRecDepth 20000 in
theorem c86_808 : xCD 86 808 = some (.iconst 1, []) := rfl
set_option maxRecDepth 20000 in
theorem c86_809 : xCD 86 809 = some (.iadd, []) := rfl
set_option maxRecDepth 20000 in
theorem c86_810 : xCD 86 810 = some (.iaload, []) := rfl
set_option maxRecDepth 20000 in
theorem c86_811 : xCD 86 811 = some (.invokevirtual 133, [100, 1, 0, 607, 609, 61, 608, 610]) := rfl
set_option maxRecDepth 20000 in
theorem c86_814 : xCD 86 814 = some (.aload_n 2, []) := rfl
set_option maxRecDepth 20000 in
theorem c86_815 : xCD 86 815 = some (.aload_n 0, []) := rfl
set_option maxRecDepth 20000 in
theorem c86_816 : xCD 86 816 = some (.iload_n 3, []) := rfl
set_option maxRecDepth 20000 in
theorem c86_817 : xCD 86 817 = some (.iconst 1, []) := rfl
set_option maxRecDepth 20000 in
theorem c86_818 : xCD 86 818 = some (.iadd, []) := rfl
set_option maxRecDepth 20000 in
theorem c86_819 : xCD 86 819 = some (.iaload, []) := rfl
set_option maxRecDepth 20000 in
theorem c86_820 : xCD 86 820 = some (.invokevirtual 136, [170, 1, 0, 611, 613, 371, 612, 614]) := rfl
set_option maxRecDepth 20000 in
theorem c86_823 : xCD 86 823 = some (.if_icmp .eq 5, [828]) := rfl
set_option maxRecDepth 20000 in
theorem c86_826 : xCD 86 826 = some (.iconst 0, []) := rfl
set_option maxRecDepth 20000 in
theorem c86_827 : xCD 86 827 = some (.ireturn, []) := rfl
set_option maxRecDepth 20000 in
theorem c86_828 : xCD 86 828 = some (.iinc 3 4, []) := rfl
set_option maxRecDepth 20000 in
theorem c86_831 : xCD 86 831 = some (.goto (-813), [18]) := rfl
set_option maxRecDepth 20000 in
theorem c86_834 : xCD 86 834 = some (.iconst 1, []) := rfl
set_option maxRecDepth 20000 in
theorem c86_835 : xCD 86 835 = some (.ireturn, []) := rfl
