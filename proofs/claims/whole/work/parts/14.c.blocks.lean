/-! Rows of code, and blocks of them: printed by wip/whole/runblk.py. -/
theorem c103_0 : xCD 103 0 = some (.iconst 0, []) := rfl
theorem c103_1 : xCD 103 1 = some (.istore_n 1, []) := rfl
theorem c103_2 : xCD 103 2 = some (.iload_n 1, []) := rfl
theorem c103_3 : xCD 103 3 = some (.bipush 81, []) := rfl
theorem c103_5 : xCD 103 5 = some (.if_icmp .ge 16, [21]) := rfl
theorem c103_8 : xCD 103 8 = some (.aload_n 0, []) := rfl
theorem c103_9 : xCD 103 9 = some (.getfield 13, [7, 1, 641]) := rfl
theorem c103_12 : xCD 103 12 = some (.iload_n 1, []) := rfl
theorem c103_13 : xCD 103 13 = some (.iconst 0, []) := rfl
theorem c103_14 : xCD 103 14 = some (.iastore, []) := rfl
theorem c103_15 : xCD 103 15 = some (.iinc 1 1, []) := rfl
theorem c103_18 : xCD 103 18 = some (.goto (-16), [2]) := rfl
theorem c103_21 : xCD 103 21 = some (.aload_n 0, []) := rfl
theorem c103_22 : xCD 103 22 = some (.getfield 13, [7, 1, 641]) := rfl
theorem c103_25 : xCD 103 25 = some (.iconst 0, []) := rfl
theorem c103_26 : xCD 103 26 = some (.iconst 4, []) := rfl
theorem c103_27 : xCD 103 27 = some (.iastore, []) := rfl
theorem c103_28 : xCD 103 28 = some (.aload_n 0, []) := rfl
theorem c103_29 : xCD 103 29 = some (.getfield 13, [7, 1, 641]) := rfl
theorem c103_32 : xCD 103 32 = some (.iconst 1, []) := rfl
theorem c103_33 : xCD 103 33 = some (.iconst 5, []) := rfl
theorem c103_34 : xCD 103 34 = some (.iastore, []) := rfl
theorem c103_35 : xCD 103 35 = some (.aload_n 0, []) := rfl
theorem c103_36 : xCD 103 36 = some (.getfield 13, [7, 1, 641]) := rfl
theorem c103_39 : xCD 103 39 = some (.iconst 2, []) := rfl
theorem c103_40 : xCD 103 40 = some (.bipush 10, []) := rfl
theorem c103_42 : xCD 103 42 = some (.iastore, []) := rfl
theorem c103_43 : xCD 103 43 = some (.aload_n 0, []) := rfl
theorem c103_44 : xCD 103 44 = some (.getfield 13, [7, 1, 641]) := rfl
theorem c103_47 : xCD 103 47 = some (.iconst 3, []) := rfl
theorem c103_48 : xCD 103 48 = some (.bipush 10, []) := rfl
theorem c103_50 : xCD 103 50 = some (.iastore, []) := rfl
theorem c103_51 : xCD 103 51 = some (.aload_n 0, []) := rfl
theorem c103_52 : xCD 103 52 = some (.iconst 1, []) := rfl
theorem c103_53 : xCD 103 53 = some (.putfield 65, [7, 12, 663]) := rfl
theorem c103_56 : xCD 103 56 = some (.return_, []) := rfl
theorem c104_0 : xCD 104 0 = some (.aload_n 0, []) := rfl
theorem c104_1 : xCD 104 1 = some (.getfield 13, [7, 1, 641]) := rfl
theorem c104_4 : xCD 104 4 = some (.bipush 9, []) := rfl
theorem c104_6 : xCD 104 6 = some (.iload_n 1, []) := rfl
theorem c104_7 : xCD 104 7 = some (.iadd, []) := rfl
theorem c104_8 : xCD 104 8 = some (.iload_n 2, []) := rfl
theorem c104_9 : xCD 104 9 = some (.iastore, []) := rfl
theorem c104_10 : xCD 104 10 = some (.aload_n 0, []) := rfl
theorem c104_11 : xCD 104 11 = some (.getfield 13, [7, 1, 641]) := rfl
theorem c104_14 : xCD 104 14 = some (.bipush 45, []) := rfl
theorem c104_16 : xCD 104 16 = some (.iload_n 1, []) := rfl
theorem c104_17 : xCD 104 17 = some (.iadd, []) := rfl
theorem c104_18 : xCD 104 18 = some (.iload_n 2, []) := rfl
theorem c104_19 : xCD 104 19 = some (.iastore, []) := rfl
theorem c104_20 : xCD 104 20 = some (.return_, []) := rfl
theorem c105_0 : xCD 105 0 = some (.aload_n 0, []) := rfl
theorem c105_1 : xCD 105 1 = some (.getfield 13, [7, 1, 641]) := rfl
theorem c105_4 : xCD 105 4 = some (.iconst 0, []) := rfl
theorem c105_5 : xCD 105 5 = some (.aload_n 0, []) := rfl
theorem c105_6 : xCD 105 6 = some (.getfield 7, [7, 0, 640]) := rfl
theorem c105_9 : xCD 105 9 = some (.iconst 0, []) := rfl
theorem c105_10 : xCD 105 10 = some (.bipush 81, []) := rfl
theorem c105_12 : xCD 105 12 = some (.invokestatic 92, [106, 5, 0, 664, 666, 371, 665]) := rfl
theorem c105_15 : xCD 105 15 = some (.iconst 0, []) := rfl
theorem c105_16 : xCD 105 16 = some (.istore_n 1, []) := rfl
theorem c105_17 : xCD 105 17 = some (.iload_n 1, []) := rfl
theorem c105_18 : xCD 105 18 = some (.bipush 111, []) := rfl
theorem c105_20 : xCD 105 20 = some (.if_icmp .ge 34, [54]) := rfl
theorem c105_23 : xCD 105 23 = some (.aload_n 0, []) := rfl
theorem c105_24 : xCD 105 24 = some (.getfield 16, [7, 2, 642]) := rfl
theorem c105_27 : xCD 105 27 = some (.iload_n 1, []) := rfl
theorem c105_28 : xCD 105 28 = some (.iload_n 1, []) := rfl
theorem c105_29 : xCD 105 29 = some (.bipush 36, []) := rfl
theorem c105_31 : xCD 105 31 = some (.if_icmp .ge 15, [46]) := rfl
theorem c105_34 : xCD 105 34 = some (.aload_n 0, []) := rfl
theorem c105_35 : xCD 105 35 = some (.getfield 7, [7, 0, 640]) := rfl
theorem c105_38 : xCD 105 38 = some (.bipush 45, []) := rfl
theorem c105_40 : xCD 105 40 = some (.iload_n 1, []) := rfl
theorem c105_41 : xCD 105 41 = some (.iadd, []) := rfl
theorem c105_42 : xCD 105 42 = some (.iaload, []) := rfl
theorem c105_43 : xCD 105 43 = some (.goto 4, [47]) := rfl
theorem c105_46 : xCD 105 46 = some (.iconst 0, []) := rfl
theorem c105_47 : xCD 105 47 = some (.iastore, []) := rfl
theorem c105_48 : xCD 105 48 = some (.iinc 1 1, []) := rfl
theorem c105_51 : xCD 105 51 = some (.goto (-34), [17]) := rfl
theorem c105_54 : xCD 105 54 = some (.aload_n 0, []) := rfl
theorem c105_55 : xCD 105 55 = some (.getfield 16, [7, 2, 642]) := rfl
theorem c105_58 : xCD 105 58 = some (.bipush 108, []) := rfl
theorem c105_60 : xCD 105 60 = some (.aload_n 0, []) := rfl
theorem c105_61 : xCD 105 61 = some (.getfield 7, [7, 0, 640]) := rfl
theorem c105_64 : xCD 105 64 = some (.bipush 7, []) := rfl
theorem c105_66 : xCD 105 66 = some (.iaload, []) := rfl
theorem c105_67 : xCD 105 67 = some (.iastore, []) := rfl
theorem c105_68 : xCD 105 68 = some (.aload_n 0, []) := rfl
theorem c105_69 : xCD 105 69 = some (.getfield 16, [7, 2, 642]) := rfl
theorem c105_72 : xCD 105 72 = some (.bipush 109, []) := rfl
theorem c105_74 : xCD 105 74 = some (.aload_n 0, []) := rfl
theorem c105_75 : xCD 105 75 = some (.getfield 7, [7, 0, 640]) := rfl
theorem c105_78 : xCD 105 78 = some (.bipush 8, []) := rfl
theorem c105_80 : xCD 105 80 = some (.iaload, []) := rfl
theorem c105_81 : xCD 105 81 = some (.iastore, []) := rfl
theorem c105_82 : xCD 105 82 = some (.aload_n 0, []) := rfl
theorem c105_83 : xCD 105 83 = some (.iconst 0, []) := rfl
theorem c105_84 : xCD 105 84 = some (.putfield 118, [7, 5, 667]) := rfl
theorem c105_87 : xCD 105 87 = some (.aload_n 0, []) := rfl
theorem c105_88 : xCD 105 88 = some (.iconst 0, []) := rfl
theorem c105_89 : xCD 105 89 = some (.putfield 121, [7, 7, 668]) := rfl
theorem c105_92 : xCD 105 92 = some (.aload_n 0, []) := rfl
theorem c105_93 : xCD 105 93 = some (.iconst 0, []) := rfl
theorem c105_94 : xCD 105 94 = some (.putfield 124, [7, 11, 669]) := rfl
theorem c105_97 : xCD 105 97 = some (.return_, []) := rfl
theorem c106_0 : xCD 106 0 = some (.iconst 0, []) := rfl
theorem c106_1 : xCD 106 1 = some (.istore 5, []) := rfl
theorem c106_3 : xCD 106 3 = some (.iload 5, []) := rfl
theorem c106_5 : xCD 106 5 = some (.iload 4, []) := rfl
theorem c106_7 : xCD 106 7 = some (.if_icmp .ge 21, [28]) := rfl
theorem c106_10 : xCD 106 10 = some (.aload_n 2, []) := rfl
theorem c106_11 : xCD 106 11 = some (.iload_n 3, []) := rfl
theorem c106_12 : xCD 106 12 = some (.iload 5, []) := rfl
theorem c106_14 : xCD 106 14 = some (.iadd, []) := rfl
theorem c106_15 : xCD 106 15 = some (.aload_n 0, []) := rfl
theorem c106_16 : xCD 106 16 = some (.iload_n 1, []) := rfl
theorem c106_17 : xCD 106 17 = some (.iload 5, []) := rfl
theorem c106_19 : xCD 106 19 = some (.iadd, []) := rfl
theorem c106_20 : xCD 106 20 = some (.iaload, []) := rfl
theorem c106_21 : xCD 106 21 = some (.iastore, []) := rfl
theorem c106_22 : xCD 106 22 = some (.iinc 5 1, []) := rfl
theorem c106_25 : xCD 106 25 = some (.goto (-22), [3]) := rfl
theorem c106_28 : xCD 106 28 = some (.return_, []) := rfl
theorem c107_0 : xCD 107 0 = some (.iload_n 1, []) := rfl
theorem c107_1 : xCD 107 1 = some (.i2l, []) := rfl
theorem c107_2 : xCD 107 2 = some (.ldc2_w 57, [32, 670]) := rfl
theorem c107_5 : xCD 107 5 = some (.ldc2_w 59, [126, 671]) := rfl
theorem c107_8 : xCD 107 8 = some (.invokestatic 53, [108, 3, 0, 672, 674, 371, 673]) := rfl
theorem c107_11 : xCD 107 11 = some (.ifCond .ne 5, [16]) := rfl
theorem c107_14 : xCD 107 14 = some (.iconst (-1), []) := rfl
theorem c107_15 : xCD 107 15 = some (.ireturn, []) := rfl
theorem c107_16 : xCD 107 16 = some (.aload_n 0, []) := rfl
theorem c107_17 : xCD 107 17 = some (.getfield 61, [7, 9, 675]) := rfl
theorem c107_20 : xCD 107 20 = some (.sipush 200, []) := rfl
theorem c107_23 : xCD 107 23 = some (.if_icmp .ne 6, [29]) := rfl
theorem c107_26 : xCD 107 26 = some (.bipush (-3), []) := rfl
theorem c107_28 : xCD 107 28 = some (.ireturn, []) := rfl
theorem c107_29 : xCD 107 29 = some (.aload_n 0, []) := rfl
theorem c107_30 : xCD 107 30 = some (.getfield 28, [7, 8, 646]) := rfl
theorem c107_33 : xCD 107 33 = some (.aload_n 0, []) := rfl
theorem c107_34 : xCD 107 34 = some (.getfield 61, [7, 9, 675]) := rfl
theorem c107_37 : xCD 107 37 = some (.iload_n 1, []) := rfl
theorem c107_38 : xCD 107 38 = some (.iastore, []) := rfl
theorem c107_39 : xCD 107 39 = some (.aload_n 0, []) := rfl
theorem c107_40 : xCD 107 40 = some (.dup, []) := rfl
theorem c107_41 : xCD 107 41 = some (.getfield 61, [7, 9, 675]) := rfl
theorem c107_44 : xCD 107 44 = some (.iconst 1, []) := rfl
theorem c107_45 : xCD 107 45 = some (.iadd, []) := rfl
theorem c107_46 : xCD 107 46 = some (.putfield 61, [7, 9, 675]) := rfl
theorem c107_49 : xCD 107 49 = some (.aload_n 0, []) := rfl
theorem c107_50 : xCD 107 50 = some (.getfield 61, [7, 9, 675]) := rfl
theorem c107_53 : xCD 107 53 = some (.ireturn, []) := rfl
theorem c108_0 : xCD 108 0 = some (.lload_n 0, []) := rfl
theorem c108_1 : xCD 108 1 = some (.lload_n 2, []) := rfl
theorem c108_2 : xCD 108 2 = some (.lcmp, []) := rfl
theorem c108_3 : xCD 108 3 = some (.ifCond .lt 14, [17]) := rfl
theorem c108_6 : xCD 108 6 = some (.lload_n 0, []) := rfl
theorem c108_7 : xCD 108 7 = some (.lload 4, []) := rfl
theorem c108_9 : xCD 108 9 = some (.lcmp, []) := rfl
theorem c108_10 : xCD 108 10 = some (.ifCond .gt 7, [17]) := rfl
theorem c108_13 : xCD 108 13 = some (.iconst 1, []) := rfl
theorem c108_14 : xCD 108 14 = some (.goto 4, [18]) := rfl
theorem c108_17 : xCD 108 17 = some (.iconst 0, []) := rfl
theorem c108_18 : xCD 108 18 = some (.ireturn, []) := rfl
theorem c109_0 : xCD 109 0 = some (.aload_n 0, []) := rfl
theorem c109_1 : xCD 109 1 = some (.getfield 61, [7, 9, 675]) := rfl
theorem c109_4 : xCD 109 4 = some (.istore_n 1, []) := rfl
theorem c109_5 : xCD 109 5 = some (.aload_n 0, []) := rfl
theorem c109_6 : xCD 109 6 = some (.iconst 0, []) := rfl
theorem c109_7 : xCD 109 7 = some (.putfield 61, [7, 9, 675]) := rfl
theorem c109_10 : xCD 109 10 = some (.iload_n 1, []) := rfl
theorem c109_11 : xCD 109 11 = some (.ireturn, []) := rfl
theorem c110_0 : xCD 110 0 = some (.aload_n 0, []) := rfl
theorem c110_1 : xCD 110 1 = some (.invokevirtual 43, [103, 0, 0, 651, 653, 371, 652, 654]) := rfl
theorem c110_4 : xCD 110 4 = some (.aload_n 0, []) := rfl
theorem c110_5 : xCD 110 5 = some (.iconst 0, []) := rfl
theorem c110_6 : xCD 110 6 = some (.putfield 69, [7, 13, 676]) := rfl
theorem c110_9 : xCD 110 9 = some (.aload_n 0, []) := rfl
theorem c110_10 : xCD 110 10 = some (.getfield 69, [7, 13, 676]) := rfl
theorem c110_13 : xCD 110 13 = some (.aload_n 0, []) := rfl
theorem c110_14 : xCD 110 14 = some (.getfield 61, [7, 9, 675]) := rfl
theorem c110_17 : xCD 110 17 = some (.if_icmp .ge 20, [37]) := rfl
theorem c110_20 : xCD 110 20 = some (.aload_n 0, []) := rfl
theorem c110_21 : xCD 110 21 = some (.getfield 69, [7, 13, 676]) := rfl
theorem c110_24 : xCD 110 24 = some (.istore_n 1, []) := rfl
theorem c110_25 : xCD 110 25 = some (.aload_n 0, []) := rfl
theorem c110_26 : xCD 110 26 = some (.invokevirtual 115, [111, 0, 0, 677, 679, 371, 678, 680]) := rfl
theorem c110_29 : xCD 110 29 = some (.ifCond .ne 5, [34]) := rfl
theorem c110_32 : xCD 110 32 = some (.iload_n 1, []) := rfl
theorem c110_33 : xCD 110 33 = some (.ireturn, []) := rfl
theorem c110_34 : xCD 110 34 = some (.goto (-25), [9]) := rfl
theorem c110_37 : xCD 110 37 = some (.bipush (-4), []) := rfl
theorem c110_39 : xCD 110 39 = some (.ireturn, []) := rfl
theorem c111_0 : xCD 111 0 = some (.aload_n 0, []) := rfl
theorem c111_1 : xCD 111 1 = some (.invokevirtual 72, [112, 0, 0, 681, 683, 371, 682, 684]) := rfl
theorem c111_4 : xCD 111 4 = some (.istore_n 1, []) := rfl
theorem c111_5 : xCD 111 5 = some (.aload_n 0, []) := rfl
theorem c111_6 : xCD 111 6 = some (.dup, []) := rfl
theorem c111_7 : xCD 111 7 = some (.getfield 69, [7, 13, 676]) := rfl
theorem c111_10 : xCD 111 10 = some (.iconst 1, []) := rfl
theorem c111_11 : xCD 111 11 = some (.iadd, []) := rfl
theorem c111_12 : xCD 111 12 = some (.putfield 69, [7, 13, 676]) := rfl
theorem c111_15 : xCD 111 15 = some (.iload_n 1, []) := rfl
theorem c111_16 : xCD 111 16 = some (.bipush 118, []) := rfl
theorem c111_18 : xCD 111 18 = some (.if_icmp .ne 8, [26]) := rfl
theorem c111_21 : xCD 111 21 = some (.aload_n 0, []) := rfl
theorem c111_22 : xCD 111 22 = some (.invokevirtual 96, [113, 0, 0, 685, 687, 371, 686, 688]) := rfl
theorem c111_25 : xCD 111 25 = some (.ireturn, []) := rfl
theorem c111_26 : xCD 111 26 = some (.aload_n 0, []) := rfl
theorem c111_27 : xCD 111 27 = some (.iconst 0, []) := rfl
theorem c111_28 : xCD 111 28 = some (.putfield 65, [7, 12, 663]) := rfl
theorem c111_31 : xCD 111 31 = some (.iload_n 1, []) := rfl
theorem c111_32 : xCD 111 32 = some (.tableswitch 124 101 119 #[104, 124, 119, 124, 98, 124, 124, 114, 124, 124, 124, 92, 124, 124, 124, 124, 124, 124, 109], [156, 136, 156, 151, 156, 130, 156, 156, 146, 156, 156, 156, 124, 156, 156, 156, 156, 156, 156, 141]) := rfl
theorem c111_124 : xCD 111 124 = some (.aload_n 0, []) := rfl
theorem c111_125 : xCD 111 125 = some (.iconst 1, []) := rfl
theorem c111_126 : xCD 111 126 = some (.invokevirtual 99, [115, 1, 0, 689, 691, 371, 690, 692]) := rfl
theorem c111_129 : xCD 111 129 = some (.ireturn, []) := rfl
theorem c111_130 : xCD 111 130 = some (.aload_n 0, []) := rfl
theorem c111_131 : xCD 111 131 = some (.iconst 0, []) := rfl
theorem c111_132 : xCD 111 132 = some (.invokevirtual 99, [115, 1, 0, 689, 691, 371, 690, 692]) := rfl
theorem c111_135 : xCD 111 135 = some (.ireturn, []) := rfl
theorem c111_136 : xCD 111 136 = some (.aload_n 0, []) := rfl
theorem c111_137 : xCD 111 137 = some (.invokevirtual 103, [117, 0, 0, 693, 695, 371, 694, 696]) := rfl
theorem c111_140 : xCD 111 140 = some (.ireturn, []) := rfl
theorem c111_141 : xCD 111 141 = some (.aload_n 0, []) := rfl
theorem c111_142 : xCD 111 142 = some (.invokevirtual 106, [118, 0, 0, 697, 699, 371, 698, 700]) := rfl
theorem c111_145 : xCD 111 145 = some (.ireturn, []) := rfl
theorem c111_146 : xCD 111 146 = some (.aload_n 0, []) := rfl
theorem c111_147 : xCD 111 147 = some (.invokevirtual 109, [119, 0, 0, 701, 703, 371, 702, 704]) := rfl
theorem c111_150 : xCD 111 150 = some (.ireturn, []) := rfl
theorem c111_151 : xCD 111 151 = some (.aload_n 0, []) := rfl
theorem c111_152 : xCD 111 152 = some (.invokevirtual 112, [120, 0, 0, 705, 707, 371, 706, 708]) := rfl
theorem c111_155 : xCD 111 155 = some (.ireturn, []) := rfl
theorem c111_156 : xCD 111 156 = some (.iconst 0, []) := rfl
theorem c111_157 : xCD 111 157 = some (.ireturn, []) := rfl
theorem c112_0 : xCD 112 0 = some (.aload_n 0, []) := rfl
theorem c112_1 : xCD 112 1 = some (.getfield 69, [7, 13, 676]) := rfl
theorem c112_4 : xCD 112 4 = some (.aload_n 0, []) := rfl
theorem c112_5 : xCD 112 5 = some (.getfield 61, [7, 9, 675]) := rfl
theorem c112_8 : xCD 112 8 = some (.if_icmp .ge 15, [23]) := rfl
theorem c112_11 : xCD 112 11 = some (.aload_n 0, []) := rfl
theorem c112_12 : xCD 112 12 = some (.getfield 28, [7, 8, 646]) := rfl
theorem c112_15 : xCD 112 15 = some (.aload_n 0, []) := rfl
theorem c112_16 : xCD 112 16 = some (.getfield 69, [7, 13, 676]) := rfl
theorem c112_19 : xCD 112 19 = some (.iaload, []) := rfl
theorem c112_20 : xCD 112 20 = some (.goto 4, [24]) := rfl
theorem c112_23 : xCD 112 23 = some (.iconst (-1), []) := rfl
theorem c112_24 : xCD 112 24 = some (.ireturn, []) := rfl
theorem c113_0 : xCD 113 0 = some (.aload_n 0, []) := rfl
theorem c113_1 : xCD 113 1 = some (.getfield 65, [7, 12, 663]) := rfl
theorem c113_4 : xCD 113 4 = some (.ifCond .eq 49, [53]) := rfl
theorem c113_7 : xCD 113 7 = some (.aload_n 0, []) := rfl
theorem c113_8 : xCD 113 8 = some (.iconst 2, []) := rfl
theorem c113_9 : xCD 113 9 = some (.invokevirtual 82, [114, 1, 0, 709, 711, 371, 710, 712]) := rfl
theorem c113_12 : xCD 113 12 = some (.ifCond .eq 41, [53]) := rfl
theorem c113_15 : xCD 113 15 = some (.aload_n 0, []) := rfl
theorem c113_16 : xCD 113 16 = some (.getfield 34, [7, 14, 648]) := rfl
theorem c113_19 : xCD 113 19 = some (.iconst 0, []) := rfl
theorem c113_20 : xCD 113 20 = some (.iaload, []) := rfl
theorem c113_21 : xCD 113 21 = some (.i2l, []) := rfl
theorem c113_22 : xCD 113 22 = some (.ldc2_w 80, [2, 713]) := rfl
theorem c113_25 : xCD 113 25 = some (.ldc2_w 86, [6, 714]) := rfl
theorem c113_28 : xCD 113 28 = some (.invokestatic 53, [108, 3, 0, 672, 674, 371, 673]) := rfl
theorem c113_31 : xCD 113 31 = some (.ifCond .eq 22, [53]) := rfl
theorem c113_34 : xCD 113 34 = some (.aload_n 0, []) := rfl
theorem c113_35 : xCD 113 35 = some (.getfield 34, [7, 14, 648]) := rfl
theorem c113_38 : xCD 113 38 = some (.iconst 1, []) := rfl
theorem c113_39 : xCD 113 39 = some (.iaload, []) := rfl
theorem c113_40 : xCD 113 40 = some (.i2l, []) := rfl
theorem c113_41 : xCD 113 41 = some (.ldc2_w 80, [2, 713]) := rfl
theorem c113_44 : xCD 113 44 = some (.ldc2_w 86, [6, 714]) := rfl
theorem c113_47 : xCD 113 47 = some (.invokestatic 53, [108, 3, 0, 672, 674, 371, 673]) := rfl
theorem c113_50 : xCD 113 50 = some (.ifCond .ne 5, [55]) := rfl
theorem c113_53 : xCD 113 53 = some (.iconst 0, []) := rfl
theorem c113_54 : xCD 113 54 = some (.ireturn, []) := rfl
theorem c113_55 : xCD 113 55 = some (.aload_n 0, []) := rfl
theorem c113_56 : xCD 113 56 = some (.getfield 13, [7, 1, 641]) := rfl
theorem c113_59 : xCD 113 59 = some (.iconst 0, []) := rfl
theorem c113_60 : xCD 113 60 = some (.aload_n 0, []) := rfl
theorem c113_61 : xCD 113 61 = some (.getfield 34, [7, 14, 648]) := rfl
theorem c113_64 : xCD 113 64 = some (.iconst 0, []) := rfl
theorem c113_65 : xCD 113 65 = some (.iaload, []) := rfl
theorem c113_66 : xCD 113 66 = some (.iastore, []) := rfl
theorem c113_67 : xCD 113 67 = some (.aload_n 0, []) := rfl
theorem c113_68 : xCD 113 68 = some (.getfield 13, [7, 1, 641]) := rfl
theorem c113_71 : xCD 113 71 = some (.iconst 1, []) := rfl
theorem c113_72 : xCD 113 72 = some (.aload_n 0, []) := rfl
theorem c113_73 : xCD 113 73 = some (.getfield 34, [7, 14, 648]) := rfl
theorem c113_76 : xCD 113 76 = some (.iconst 1, []) := rfl
theorem c113_77 : xCD 113 77 = some (.iaload, []) := rfl
theorem c113_78 : xCD 113 78 = some (.iastore, []) := rfl
theorem c113_79 : xCD 113 79 = some (.iconst 1, []) := rfl
theorem c113_80 : xCD 113 80 = some (.ireturn, []) := rfl
theorem c114_0 : xCD 114 0 = some (.iconst 0, []) := rfl
theorem c114_1 : xCD 114 1 = some (.istore_n 2, []) := rfl
theorem c114_2 : xCD 114 2 = some (.iload_n 2, []) := rfl
theorem c114_3 : xCD 114 3 = some (.iload_n 1, []) := rfl
theorem c114_4 : xCD 114 4 = some (.if_icmp .ge 123, [127]) := rfl
theorem c114_7 : xCD 114 7 = some (.iconst 0, []) := rfl
theorem c114_8 : xCD 114 8 = some (.istore_n 3, []) := rfl
theorem c114_9 : xCD 114 9 = some (.iconst 0, []) := rfl
theorem c114_10 : xCD 114 10 = some (.istore 4, []) := rfl
theorem c114_12 : xCD 114 12 = some (.aload_n 0, []) := rfl
theorem c114_13 : xCD 114 13 = some (.invokevirtual 72, [112, 0, 0, 681, 683, 371, 682, 684]) := rfl
theorem c114_16 : xCD 114 16 = some (.i2l, []) := rfl
theorem c114_17 : xCD 114 17 = some (.ldc2_w 76, [48, 715]) := rfl
theorem c114_20 : xCD 114 20 = some (.ldc2_w 78, [57, 716]) := rfl
theorem c114_23 : xCD 114 23 = some (.invokestatic 53, [108, 3, 0, 672, 674, 371, 673]) := rfl
theorem c114_26 : xCD 114 26 = some (.ifCond .eq 42, [68]) := rfl
theorem c114_29 : xCD 114 29 = some (.iload 4, []) := rfl
theorem c114_31 : xCD 114 31 = some (.iconst 2, []) := rfl
theorem c114_32 : xCD 114 32 = some (.if_icmp .ge 18, [50]) := rfl
theorem c114_35 : xCD 114 35 = some (.bipush 10, []) := rfl
theorem c114_37 : xCD 114 37 = some (.iload_n 3, []) := rfl
theorem c114_38 : xCD 114 38 = some (.imul, []) := rfl
theorem c114_39 : xCD 114 39 = some (.aload_n 0, []) := rfl
theorem c114_40 : xCD 114 40 = some (.invokevirtual 72, [112, 0, 0, 681, 683, 371, 682, 684]) := rfl
theorem c114_43 : xCD 114 43 = some (.iadd, []) := rfl
theorem c114_44 : xCD 114 44 = some (.bipush 48, []) := rfl
theorem c114_46 : xCD 114 46 = some (.isub, []) := rfl
theorem c114_47 : xCD 114 47 = some (.goto 4, [51]) := rfl
theorem c114_50 : xCD 114 50 = some (.iload_n 3, []) := rfl
theorem c114_51 : xCD 114 51 = some (.istore_n 3, []) := rfl
theorem c114_52 : xCD 114 52 = some (.iinc 4 1, []) := rfl
theorem c114_55 : xCD 114 55 = some (.aload_n 0, []) := rfl
theorem c114_56 : xCD 114 56 = some (.dup, []) := rfl
theorem c114_57 : xCD 114 57 = some (.getfield 69, [7, 13, 676]) := rfl
theorem c114_60 : xCD 114 60 = some (.iconst 1, []) := rfl
theorem c114_61 : xCD 114 61 = some (.iadd, []) := rfl
theorem c114_62 : xCD 114 62 = some (.putfield 69, [7, 13, 676]) := rfl
theorem c114_65 : xCD 114 65 = some (.goto (-53), [12]) := rfl
theorem c114_68 : xCD 114 68 = some (.iload 4, []) := rfl
theorem c114_70 : xCD 114 70 = some (.i2l, []) := rfl
theorem c114_71 : xCD 114 71 = some (.lconst 1, []) := rfl
theorem c114_72 : xCD 114 72 = some (.ldc2_w 80, [2, 713]) := rfl
theorem c114_75 : xCD 114 75 = some (.invokestatic 53, [108, 3, 0, 672, 674, 371, 673]) := rfl
theorem c114_78 : xCD 114 78 = some (.ifCond .eq 24, [102]) := rfl
theorem c114_81 : xCD 114 81 = some (.aload_n 0, []) := rfl
theorem c114_82 : xCD 114 82 = some (.invokevirtual 72, [112, 0, 0, 681, 683, 371, 682, 684]) := rfl
theorem c114_85 : xCD 114 85 = some (.iload_n 2, []) := rfl
theorem c114_86 : xCD 114 86 = some (.iload_n 1, []) := rfl
theorem c114_87 : xCD 114 87 = some (.iconst 1, []) := rfl
theorem c114_88 : xCD 114 88 = some (.isub, []) := rfl
theorem c114_89 : xCD 114 89 = some (.if_icmp .ge 8, [97]) := rfl
theorem c114_92 : xCD 114 92 = some (.bipush 44, []) := rfl
theorem c114_94 : xCD 114 94 = some (.goto 5, [99]) := rfl
theorem c114_97 : xCD 114 97 = some (.bipush 59, []) := rfl
theorem c114_99 : xCD 114 99 = some (.if_icmp .eq 5, [104]) := rfl
theorem c114_102 : xCD 114 102 = some (.iconst 0, []) := rfl
theorem c114_103 : xCD 114 103 = some (.ireturn, []) := rfl
theorem c114_104 : xCD 114 104 = some (.aload_n 0, []) := rfl
theorem c114_105 : xCD 114 105 = some (.getfield 34, [7, 14, 648]) := rfl
theorem c114_108 : xCD 114 108 = some (.iload_n 2, []) := rfl
theorem c114_109 : xCD 114 109 = some (.iload_n 3, []) := rfl
theorem c114_110 : xCD 114 110 = some (.iastore, []) := rfl
theorem c114_111 : xCD 114 111 = some (.aload_n 0, []) := rfl
theorem c114_112 : xCD 114 112 = some (.dup, []) := rfl
theorem c114_113 : xCD 114 113 = some (.getfield 69, [7, 13, 676]) := rfl
theorem c114_116 : xCD 114 116 = some (.iconst 1, []) := rfl
theorem c114_117 : xCD 114 117 = some (.iadd, []) := rfl
theorem c114_118 : xCD 114 118 = some (.putfield 69, [7, 13, 676]) := rfl
theorem c114_121 : xCD 114 121 = some (.iinc 2 1, []) := rfl
theorem c114_124 : xCD 114 124 = some (.goto (-122), [2]) := rfl
theorem c114_127 : xCD 114 127 = some (.iconst 1, []) := rfl
theorem c114_128 : xCD 114 128 = some (.ireturn, []) := rfl
theorem c115_0 : xCD 115 0 = some (.aload_n 0, []) := rfl
theorem c115_1 : xCD 115 1 = some (.iconst 2, []) := rfl
theorem c115_2 : xCD 115 2 = some (.invokevirtual 82, [114, 1, 0, 709, 711, 371, 710, 712]) := rfl
theorem c115_5 : xCD 115 5 = some (.ifCond .eq 21, [26]) := rfl
theorem c115_8 : xCD 115 8 = some (.aload_n 0, []) := rfl
theorem c115_9 : xCD 115 9 = some (.invokevirtual 88, [116, 0, 0, 717, 719, 371, 718, 720]) := rfl
theorem c115_12 : xCD 115 12 = some (.ifCond .eq 14, [26]) := rfl
theorem c115_15 : xCD 115 15 = some (.aload_n 0, []) := rfl
theorem c115_16 : xCD 115 16 = some (.getfield 34, [7, 14, 648]) := rfl
theorem c115_19 : xCD 115 19 = some (.iconst 1, []) := rfl
theorem c115_20 : xCD 115 20 = some (.iaload, []) := rfl
theorem c115_21 : xCD 115 21 = some (.bipush 7, []) := rfl
theorem c115_23 : xCD 115 23 = some (.if_icmp .le 5, [28]) := rfl
theorem c115_26 : xCD 115 26 = some (.iconst 0, []) := rfl
theorem c115_27 : xCD 115 27 = some (.ireturn, []) := rfl
theorem c115_28 : xCD 115 28 = some (.iload_n 1, []) := rfl
theorem c115_29 : xCD 115 29 = some (.ifCond .eq 23, [52]) := rfl
theorem c115_32 : xCD 115 32 = some (.aload_n 0, []) := rfl
theorem c115_33 : xCD 115 33 = some (.getfield 13, [7, 1, 641]) := rfl
theorem c115_36 : xCD 115 36 = some (.bipush 9, []) := rfl
theorem c115_38 : xCD 115 38 = some (.aload_n 0, []) := rfl
theorem c115_39 : xCD 115 39 = some (.getfield 34, [7, 14, 648]) := rfl
theorem c115_42 : xCD 115 42 = some (.iconst 0, []) := rfl
theorem c115_43 : xCD 115 43 = some (.iaload, []) := rfl
theorem c115_44 : xCD 115 44 = some (.iadd, []) := rfl
theorem c115_45 : xCD 115 45 = some (.aload_n 0, []) := rfl
theorem c115_46 : xCD 115 46 = some (.getfield 34, [7, 14, 648]) := rfl
theorem c115_49 : xCD 115 49 = some (.iconst 1, []) := rfl
theorem c115_50 : xCD 115 50 = some (.iaload, []) := rfl
theorem c115_51 : xCD 115 51 = some (.iastore, []) := rfl
theorem c115_52 : xCD 115 52 = some (.aload_n 0, []) := rfl
theorem c115_53 : xCD 115 53 = some (.getfield 13, [7, 1, 641]) := rfl
theorem c115_56 : xCD 115 56 = some (.bipush 45, []) := rfl
theorem c115_58 : xCD 115 58 = some (.aload_n 0, []) := rfl
theorem c115_59 : xCD 115 59 = some (.getfield 34, [7, 14, 648]) := rfl
theorem c115_62 : xCD 115 62 = some (.iconst 0, []) := rfl
theorem c115_63 : xCD 115 63 = some (.iaload, []) := rfl
theorem c115_64 : xCD 115 64 = some (.iadd, []) := rfl
theorem c115_65 : xCD 115 65 = some (.aload_n 0, []) := rfl
theorem c115_66 : xCD 115 66 = some (.getfield 34, [7, 14, 648]) := rfl
theorem c115_69 : xCD 115 69 = some (.iconst 1, []) := rfl
theorem c115_70 : xCD 115 70 = some (.iaload, []) := rfl
theorem c115_71 : xCD 115 71 = some (.iastore, []) := rfl
theorem c115_72 : xCD 115 72 = some (.iconst 1, []) := rfl
theorem c115_73 : xCD 115 73 = some (.ireturn, []) := rfl
theorem c116_0 : xCD 116 0 = some (.aload_n 0, []) := rfl
theorem c116_1 : xCD 116 1 = some (.getfield 34, [7, 14, 648]) := rfl
theorem c116_4 : xCD 116 4 = some (.iconst 0, []) := rfl
theorem c116_5 : xCD 116 5 = some (.iaload, []) := rfl
theorem c116_6 : xCD 116 6 = some (.aload_n 0, []) := rfl
theorem c116_7 : xCD 116 7 = some (.getfield 13, [7, 1, 641]) := rfl
theorem c116_10 : xCD 116 10 = some (.iconst 0, []) := rfl
theorem c116_11 : xCD 116 11 = some (.iaload, []) := rfl
theorem c116_12 : xCD 116 12 = some (.aload_n 0, []) := rfl
theorem c116_13 : xCD 116 13 = some (.getfield 13, [7, 1, 641]) := rfl
theorem c116_16 : xCD 116 16 = some (.iconst 1, []) := rfl
theorem c116_17 : xCD 116 17 = some (.iaload, []) := rfl
theorem c116_18 : xCD 116 18 = some (.imul, []) := rfl
theorem c116_19 : xCD 116 19 = some (.if_icmp .ge 7, [26]) := rfl
theorem c116_22 : xCD 116 22 = some (.iconst 1, []) := rfl
theorem c116_23 : xCD 116 23 = some (.goto 4, [27]) := rfl
theorem c116_26 : xCD 116 26 = some (.iconst 0, []) := rfl
theorem c116_27 : xCD 116 27 = some (.ireturn, []) := rfl
theorem c117_0 : xCD 117 0 = some (.aload_n 0, []) := rfl
theorem c117_1 : xCD 117 1 = some (.iconst 1, []) := rfl
theorem c117_2 : xCD 117 2 = some (.invokevirtual 82, [114, 1, 0, 709, 711, 371, 710, 712]) := rfl
theorem c117_5 : xCD 117 5 = some (.ifCond .ne 5, [10]) := rfl
theorem c117_8 : xCD 117 8 = some (.iconst 0, []) := rfl
theorem c117_9 : xCD 117 9 = some (.ireturn, []) := rfl
theorem c117_10 : xCD 117 10 = some (.aload_n 0, []) := rfl
theorem c117_11 : xCD 117 11 = some (.getfield 13, [7, 1, 641]) := rfl
theorem c117_14 : xCD 117 14 = some (.bipush 8, []) := rfl
theorem c117_16 : xCD 117 16 = some (.aload_n 0, []) := rfl
theorem c117_17 : xCD 117 17 = some (.getfield 34, [7, 14, 648]) := rfl
theorem c117_20 : xCD 117 20 = some (.iconst 0, []) := rfl
theorem c117_21 : xCD 117 21 = some (.iaload, []) := rfl
theorem c117_22 : xCD 117 22 = some (.iastore, []) := rfl
theorem c117_23 : xCD 117 23 = some (.iconst 1, []) := rfl
theorem c117_24 : xCD 117 24 = some (.ireturn, []) := rfl
theorem c118_0 : xCD 118 0 = some (.aload_n 0, []) := rfl
theorem c118_1 : xCD 118 1 = some (.iconst 1, []) := rfl
theorem c118_2 : xCD 118 2 = some (.invokevirtual 82, [114, 1, 0, 709, 711, 371, 710, 712]) := rfl
theorem c118_5 : xCD 118 5 = some (.ifCond .eq 13, [18]) := rfl
theorem c118_8 : xCD 118 8 = some (.aload_n 0, []) := rfl
theorem c118_9 : xCD 118 9 = some (.getfield 34, [7, 14, 648]) := rfl
theorem c118_12 : xCD 118 12 = some (.iconst 0, []) := rfl
theorem c118_13 : xCD 118 13 = some (.iaload, []) := rfl
theorem c118_14 : xCD 118 14 = some (.iconst 3, []) := rfl
theorem c118_15 : xCD 118 15 = some (.if_icmp .le 5, [20]) := rfl
theorem c118_18 : xCD 118 18 = some (.iconst 0, []) := rfl
theorem c118_19 : xCD 118 19 = some (.ireturn, []) := rfl
theorem c118_20 : xCD 118 20 = some (.aload_n 0, []) := rfl
theorem c118_21 : xCD 118 21 = some (.getfield 13, [7, 1, 641]) := rfl
theorem c118_24 : xCD 118 24 = some (.bipush 7, []) := rfl
theorem c118_26 : xCD 118 26 = some (.aload_n 0, []) := rfl
theorem c118_27 : xCD 118 27 = some (.getfield 34, [7, 14, 648]) := rfl
theorem c118_30 : xCD 118 30 = some (.iconst 0, []) := rfl
theorem c118_31 : xCD 118 31 = some (.iaload, []) := rfl
theorem c118_32 : xCD 118 32 = some (.iastore, []) := rfl
theorem c118_33 : xCD 118 33 = some (.iconst 1, []) := rfl
theorem c118_34 : xCD 118 34 = some (.ireturn, []) := rfl
theorem c119_0 : xCD 119 0 = some (.aload_n 0, []) := rfl
theorem c119_1 : xCD 119 1 = some (.iconst 1, []) := rfl
theorem c119_2 : xCD 119 2 = some (.invokevirtual 82, [114, 1, 0, 709, 711, 371, 710, 712]) := rfl
theorem c119_5 : xCD 119 5 = some (.ifCond .ne 5, [10]) := rfl
theorem c119_8 : xCD 119 8 = some (.iconst 0, []) := rfl
theorem c119_9 : xCD 119 9 = some (.ireturn, []) := rfl
theorem c119_10 : xCD 119 10 = some (.aload_n 0, []) := rfl
theorem c119_11 : xCD 119 11 = some (.getfield 13, [7, 1, 641]) := rfl
theorem c119_14 : xCD 119 14 = some (.iconst 2, []) := rfl
theorem c119_15 : xCD 119 15 = some (.aload_n 0, []) := rfl
theorem c119_16 : xCD 119 16 = some (.getfield 34, [7, 14, 648]) := rfl
theorem c119_19 : xCD 119 19 = some (.iconst 0, []) := rfl
theorem c119_20 : xCD 119 20 = some (.iaload, []) := rfl
theorem c119_21 : xCD 119 21 = some (.iastore, []) := rfl
theorem c119_22 : xCD 119 22 = some (.iconst 1, []) := rfl
theorem c119_23 : xCD 119 23 = some (.ireturn, []) := rfl
theorem c120_0 : xCD 120 0 = some (.aload_n 0, []) := rfl
theorem c120_1 : xCD 120 1 = some (.iconst 4, []) := rfl
theorem c120_2 : xCD 120 2 = some (.invokevirtual 82, [114, 1, 0, 709, 711, 371, 710, 712]) := rfl
theorem c120_5 : xCD 120 5 = some (.ifCond .eq 35, [40]) := rfl
theorem c120_8 : xCD 120 8 = some (.aload_n 0, []) := rfl
theorem c120_9 : xCD 120 9 = some (.getfield 34, [7, 14, 648]) := rfl
theorem c120_12 : xCD 120 12 = some (.iconst 0, []) := rfl
theorem c120_13 : xCD 120 13 = some (.iaload, []) := rfl
theorem c120_14 : xCD 120 14 = some (.aload_n 0, []) := rfl
theorem c120_15 : xCD 120 15 = some (.getfield 34, [7, 14, 648]) := rfl
theorem c120_18 : xCD 120 18 = some (.iconst 1, []) := rfl
theorem c120_19 : xCD 120 19 = some (.iaload, []) := rfl
theorem c120_20 : xCD 120 20 = some (.iadd, []) := rfl
theorem c120_21 : xCD 120 21 = some (.aload_n 0, []) := rfl
theorem c120_22 : xCD 120 22 = some (.getfield 34, [7, 14, 648]) := rfl
theorem c120_25 : xCD 120 25 = some (.iconst 2, []) := rfl
theorem c120_26 : xCD 120 26 = some (.iaload, []) := rfl
theorem c120_27 : xCD 120 27 = some (.iadd, []) := rfl
theorem c120_28 : xCD 120 28 = some (.aload_n 0, []) := rfl
theorem c120_29 : xCD 120 29 = some (.getfield 34, [7, 14, 648]) := rfl
theorem c120_32 : xCD 120 32 = some (.iconst 3, []) := rfl
theorem c120_33 : xCD 120 33 = some (.iaload, []) := rfl
theorem c120_34 : xCD 120 34 = some (.iadd, []) := rfl
theorem c120_35 : xCD 120 35 = some (.bipush 10, []) := rfl
theorem c120_37 : xCD 120 37 = some (.if_icmp .eq 5, [42]) := rfl
theorem c120_40 : xCD 120 40 = some (.iconst 0, []) := rfl
theorem c120_41 : xCD 120 41 = some (.ireturn, []) := rfl
theorem c120_42 : xCD 120 42 = some (.aload_n 0, []) := rfl
theorem c120_43 : xCD 120 43 = some (.getfield 34, [7, 14, 648]) := rfl
theorem c120_46 : xCD 120 46 = some (.iconst 0, []) := rfl
theorem c120_47 : xCD 120 47 = some (.aload_n 0, []) := rfl
theorem c120_48 : xCD 120 48 = some (.getfield 13, [7, 1, 641]) := rfl
theorem c120_51 : xCD 120 51 = some (.iconst 3, []) := rfl
theorem c120_52 : xCD 120 52 = some (.iconst 4, []) := rfl
theorem c120_53 : xCD 120 53 = some (.invokestatic 92, [106, 5, 0, 664, 666, 371, 665]) := rfl
theorem c120_56 : xCD 120 56 = some (.iconst 1, []) := rfl
theorem c120_57 : xCD 120 57 = some (.ireturn, []) := rfl
theorem c121_0 : xCD 121 0 = some (.aload_n 0, []) := rfl
theorem c121_1 : xCD 121 1 = some (.invokevirtual 127, [110, 0, 0, 721, 397, 371, 396, 398]) := rfl
theorem c121_4 : xCD 121 4 = some (.bipush (-4), []) := rfl
theorem c121_6 : xCD 121 6 = some (.if_icmp .ne 33, [39]) := rfl
theorem c121_9 : xCD 121 9 = some (.aload_n 0, []) := rfl
theorem c121_10 : xCD 121 10 = some (.getfield 61, [7, 9, 675]) := rfl
theorem c121_13 : xCD 121 13 = some (.ifCond .eq 26, [39]) := rfl
theorem c121_16 : xCD 121 16 = some (.aload_n 0, []) := rfl
theorem c121_17 : xCD 121 17 = some (.getfield 13, [7, 1, 641]) := rfl
theorem c121_20 : xCD 121 20 = some (.bipush 8, []) := rfl
theorem c121_22 : xCD 121 22 = some (.iaload, []) := rfl
theorem c121_23 : xCD 121 23 = some (.aload_n 0, []) := rfl
theorem c121_24 : xCD 121 24 = some (.getfield 13, [7, 1, 641]) := rfl
theorem c121_27 : xCD 121 27 = some (.iconst 0, []) := rfl
theorem c121_28 : xCD 121 28 = some (.iaload, []) := rfl
theorem c121_29 : xCD 121 29 = some (.aload_n 0, []) := rfl
theorem c121_30 : xCD 121 30 = some (.getfield 13, [7, 1, 641]) := rfl
theorem c121_33 : xCD 121 33 = some (.iconst 1, []) := rfl
theorem c121_34 : xCD 121 34 = some (.iaload, []) := rfl
theorem c121_35 : xCD 121 35 = some (.imul, []) := rfl
theorem c121_36 : xCD 121 36 = some (.if_icmp .lt 6, [42]) := rfl
theorem c121_39 : xCD 121 39 = some (.bipush (-2), []) := rfl
theorem c121_41 : xCD 121 41 = some (.ireturn, []) := rfl
theorem c121_42 : xCD 121 42 = some (.aload_n 0, []) := rfl
theorem c121_43 : xCD 121 43 = some (.invokevirtual 50, [105, 0, 0, 659, 661, 371, 660, 662]) := rfl
theorem c121_46 : xCD 121 46 = some (.aload_n 0, []) := rfl
theorem c121_47 : xCD 121 47 = some (.invokevirtual 130, [122, 0, 0, 722, 724, 371, 723, 725]) := rfl
theorem c121_50 : xCD 121 50 = some (.ireturn, []) := rfl
theorem c122_0 : xCD 122 0 = some (.aload_n 0, []) := rfl
theorem c122_1 : xCD 122 1 = some (.getfield 7, [7, 0, 640]) := rfl
theorem c122_4 : xCD 122 4 = some (.iconst 0, []) := rfl
theorem c122_5 : xCD 122 5 = some (.iaload, []) := rfl
theorem c122_6 : xCD 122 6 = some (.aload_n 0, []) := rfl
theorem c122_7 : xCD 122 7 = some (.getfield 7, [7, 0, 640]) := rfl
theorem c122_10 : xCD 122 10 = some (.iconst 1, []) := rfl
theorem c122_11 : xCD 122 11 = some (.iaload, []) := rfl
theorem c122_12 : xCD 122 12 = some (.imul, []) := rfl
theorem c122_13 : xCD 122 13 = some (.ireturn, []) := rfl
theorem c123_0 : xCD 123 0 = some (.aload_n 0, []) := rfl
theorem c123_1 : xCD 123 1 = some (.iload_n 1, []) := rfl
theorem c123_2 : xCD 123 2 = some (.invokevirtual 161, [124, 1, 0, 726, 728, 371, 727, 729]) := rfl
theorem c123_5 : xCD 123 5 = some (.ifCond .ne 5, [10]) := rfl
theorem c123_8 : xCD 123 8 = some (.iconst (-1), []) := rfl
theorem c123_9 : xCD 123 9 = some (.ireturn, []) := rfl
theorem c123_10 : xCD 123 10 = some (.iload_n 2, []) := rfl
theorem c123_11 : xCD 123 11 = some (.tableswitch 96 0 5 #[37, 47, 56, 66, 76, 86], [107, 48, 58, 67, 77, 87, 97]) := rfl
theorem c123_48 : xCD 123 48 = some (.aload_n 0, []) := rfl
theorem c123_49 : xCD 123 49 = some (.getfield 7, [7, 0, 640]) := rfl
theorem c123_52 : xCD 123 52 = some (.bipush 9, []) := rfl
theorem c123_54 : xCD 123 54 = some (.iload_n 1, []) := rfl
theorem c123_55 : xCD 123 55 = some (.iadd, []) := rfl
theorem c123_56 : xCD 123 56 = some (.iaload, []) := rfl
theorem c123_57 : xCD 123 57 = some (.ireturn, []) := rfl
theorem c123_58 : xCD 123 58 = some (.aload_n 0, []) := rfl
theorem c123_59 : xCD 123 59 = some (.getfield 16, [7, 2, 642]) := rfl
theorem c123_62 : xCD 123 62 = some (.iconst 0, []) := rfl
theorem c123_63 : xCD 123 63 = some (.iload_n 1, []) := rfl
theorem c123_64 : xCD 123 64 = some (.iadd, []) := rfl
theorem c123_65 : xCD 123 65 = some (.iaload, []) := rfl
theorem c123_66 : xCD 123 66 = some (.ireturn, []) := rfl
theorem c123_67 : xCD 123 67 = some (.aload_n 0, []) := rfl
theorem c123_68 : xCD 123 68 = some (.aload_n 0, []) := rfl
theorem c123_69 : xCD 123 69 = some (.getfield 16, [7, 2, 642]) := rfl
theorem c123_72 : xCD 123 72 = some (.iload_n 1, []) := rfl
theorem c123_73 : xCD 123 73 = some (.invokevirtual 144, [125, 2, 0, 730, 732, 371, 731, 733]) := rfl
theorem c123_76 : xCD 123 76 = some (.ireturn, []) := rfl
theorem c123_77 : xCD 123 77 = some (.aload_n 0, []) := rfl
theorem c123_78 : xCD 123 78 = some (.aload_n 0, []) := rfl
theorem c123_79 : xCD 123 79 = some (.getfield 16, [7, 2, 642]) := rfl
theorem c123_82 : xCD 123 82 = some (.iload_n 1, []) := rfl
theorem c123_83 : xCD 123 83 = some (.invokevirtual 154, [129, 2, 0, 734, 736, 371, 735, 737]) := rfl
theorem c123_86 : xCD 123 86 = some (.ireturn, []) := rfl
theorem c123_87 : xCD 123 87 = some (.aload_n 0, []) := rfl
theorem c123_88 : xCD 123 88 = some (.getfield 16, [7, 2, 642]) := rfl
theorem c123_91 : xCD 123 91 = some (.bipush 36, []) := rfl
theorem c123_93 : xCD 123 93 = some (.iload_n 1, []) := rfl
theorem c123_94 : xCD 123 94 = some (.iadd, []) := rfl
theorem c123_95 : xCD 123 95 = some (.iaload, []) := rfl
theorem c123_96 : xCD 123 96 = some (.ireturn, []) := rfl
theorem c123_97 : xCD 123 97 = some (.aload_n 0, []) := rfl
theorem c123_98 : xCD 123 98 = some (.getfield 16, [7, 2, 642]) := rfl
theorem c123_101 : xCD 123 101 = some (.bipush 72, []) := rfl
theorem c123_103 : xCD 123 103 = some (.iload_n 1, []) := rfl
theorem c123_104 : xCD 123 104 = some (.iadd, []) := rfl
theorem c123_105 : xCD 123 105 = some (.iaload, []) := rfl
theorem c123_106 : xCD 123 106 = some (.ireturn, []) := rfl
theorem c123_107 : xCD 123 107 = some (.iconst (-1), []) := rfl
theorem c123_108 : xCD 123 108 = some (.ireturn, []) := rfl
theorem c124_0 : xCD 124 0 = some (.iload_n 1, []) := rfl
theorem c124_1 : xCD 124 1 = some (.i2l, []) := rfl
theorem c124_2 : xCD 124 2 = some (.lconst 0, []) := rfl
theorem c124_3 : xCD 124 3 = some (.aload_n 0, []) := rfl
theorem c124_4 : xCD 124 4 = some (.invokevirtual 130, [122, 0, 0, 722, 724, 371, 723, 725]) := rfl
theorem c124_7 : xCD 124 7 = some (.iconst 1, []) := rfl
theorem c124_8 : xCD 124 8 = some (.isub, []) := rfl
theorem c124_9 : xCD 124 9 = some (.i2l, []) := rfl
theorem c124_10 : xCD 124 10 = some (.invokestatic 53, [108, 3, 0, 672, 674, 371, 673]) := rfl
theorem c124_13 : xCD 124 13 = some (.ireturn, []) := rfl
theorem c125_0 : xCD 125 0 = some (.aload_n 0, []) := rfl
theorem c125_1 : xCD 125 1 = some (.iload_n 2, []) := rfl
theorem c125_2 : xCD 125 2 = some (.invokevirtual 133, [126, 1, 0, 738, 740, 371, 739, 741]) := rfl
theorem c125_5 : xCD 125 5 = some (.istore_n 3, []) := rfl
theorem c125_6 : xCD 125 6 = some (.aload_n 0, []) := rfl
theorem c125_7 : xCD 125 7 = some (.iload_n 2, []) := rfl
theorem c125_8 : xCD 125 8 = some (.invokevirtual 137, [127, 1, 0, 742, 744, 371, 743, 745]) := rfl
theorem c125_11 : xCD 125 11 = some (.istore 4, []) := rfl
theorem c125_13 : xCD 125 13 = some (.aload_n 1, []) := rfl
theorem c125_14 : xCD 125 14 = some (.bipush 72, []) := rfl
theorem c125_16 : xCD 125 16 = some (.iload_n 2, []) := rfl
theorem c125_17 : xCD 125 17 = some (.iadd, []) := rfl
theorem c125_18 : xCD 125 18 = some (.iaload, []) := rfl
theorem c125_19 : xCD 125 19 = some (.iconst 1, []) := rfl
theorem c125_20 : xCD 125 20 = some (.if_icmp .ne 13, [33]) := rfl
theorem c125_23 : xCD 125 23 = some (.aload_n 0, []) := rfl
theorem c125_24 : xCD 125 24 = some (.getfield 7, [7, 0, 640]) := rfl
theorem c125_27 : xCD 125 27 = some (.bipush 9, []) := rfl
theorem c125_29 : xCD 125 29 = some (.iload_n 2, []) := rfl
theorem c125_30 : xCD 125 30 = some (.iadd, []) := rfl
theorem c125_31 : xCD 125 31 = some (.iaload, []) := rfl
theorem c125_32 : xCD 125 32 = some (.ireturn, []) := rfl
theorem c125_33 : xCD 125 33 = some (.aload_n 1, []) := rfl
theorem c125_34 : xCD 125 34 = some (.iconst 0, []) := rfl
theorem c125_35 : xCD 125 35 = some (.iload_n 2, []) := rfl
theorem c125_36 : xCD 125 36 = some (.iadd, []) := rfl
theorem c125_37 : xCD 125 37 = some (.iaload, []) := rfl
theorem c125_38 : xCD 125 38 = some (.ifCond .eq 18, [56]) := rfl
theorem c125_41 : xCD 125 41 = some (.aload_n 1, []) := rfl
theorem c125_42 : xCD 125 42 = some (.iconst 0, []) := rfl
theorem c125_43 : xCD 125 43 = some (.iload_n 2, []) := rfl
theorem c125_44 : xCD 125 44 = some (.iadd, []) := rfl
theorem c125_45 : xCD 125 45 = some (.iaload, []) := rfl
theorem c125_46 : xCD 125 46 = some (.iconst 4, []) := rfl
theorem c125_47 : xCD 125 47 = some (.if_icmp .eq 9, [56]) := rfl
theorem c125_50 : xCD 125 50 = some (.aload_n 1, []) := rfl
theorem c125_51 : xCD 125 51 = some (.iconst 0, []) := rfl
theorem c125_52 : xCD 125 52 = some (.iload_n 2, []) := rfl
theorem c125_53 : xCD 125 53 = some (.iadd, []) := rfl
theorem c125_54 : xCD 125 54 = some (.iaload, []) := rfl
theorem c125_55 : xCD 125 55 = some (.ireturn, []) := rfl
theorem c125_56 : xCD 125 56 = some (.aload_n 0, []) := rfl
theorem c125_57 : xCD 125 57 = some (.aload_n 1, []) := rfl
theorem c125_58 : xCD 125 58 = some (.iload_n 3, []) := rfl
theorem c125_59 : xCD 125 59 = some (.iconst 1, []) := rfl
theorem c125_60 : xCD 125 60 = some (.iadd, []) := rfl
theorem c125_61 : xCD 125 61 = some (.iload 4, []) := rfl
theorem c125_63 : xCD 125 63 = some (.invokevirtual 140, [128, 3, 0, 746, 748, 371, 747, 749]) := rfl
theorem c125_66 : xCD 125 66 = some (.iconst 5, []) := rfl
theorem c125_67 : xCD 125 67 = some (.if_icmp .ne 22, [89]) := rfl
theorem c125_70 : xCD 125 70 = some (.aload_n 1, []) := rfl
theorem c125_71 : xCD 125 71 = some (.bipush 36, []) := rfl
theorem c125_73 : xCD 125 73 = some (.iload_n 2, []) := rfl
theorem c125_74 : xCD 125 74 = some (.iadd, []) := rfl
theorem c125_75 : xCD 125 75 = some (.aload_n 0, []) := rfl
theorem c125_76 : xCD 125 76 = some (.getfield 7, [7, 0, 640]) := rfl
theorem c125_79 : xCD 125 79 = some (.iconst 1, []) := rfl
theorem c125_80 : xCD 125 80 = some (.iaload, []) := rfl
theorem c125_81 : xCD 125 81 = some (.iadd, []) := rfl
theorem c125_82 : xCD 125 82 = some (.iaload, []) := rfl
theorem c125_83 : xCD 125 83 = some (.iconst 2, []) := rfl
theorem c125_84 : xCD 125 84 = some (.if_icmp .le 5, [89]) := rfl
theorem c125_87 : xCD 125 87 = some (.iconst 5, []) := rfl
theorem c125_88 : xCD 125 88 = some (.ireturn, []) := rfl
theorem c125_89 : xCD 125 89 = some (.aload_n 1, []) := rfl
theorem c125_90 : xCD 125 90 = some (.bipush 108, []) := rfl
theorem c125_92 : xCD 125 92 = some (.iaload, []) := rfl
theorem c125_93 : xCD 125 93 = some (.istore 5, []) := rfl
theorem c125_95 : xCD 125 95 = some (.iload 5, []) := rfl
theorem c125_97 : xCD 125 97 = some (.ifCond .ne 11, [108]) := rfl
theorem c125_100 : xCD 125 100 = some (.aload_n 1, []) := rfl
theorem c125_101 : xCD 125 101 = some (.iconst 0, []) := rfl
theorem c125_102 : xCD 125 102 = some (.iload_n 2, []) := rfl
theorem c125_103 : xCD 125 103 = some (.iadd, []) := rfl
theorem c125_104 : xCD 125 104 = some (.iaload, []) := rfl
theorem c125_105 : xCD 125 105 = some (.goto 51, [156]) := rfl
theorem c125_108 : xCD 125 108 = some (.iload 5, []) := rfl
theorem c125_110 : xCD 125 110 = some (.iconst 1, []) := rfl
theorem c125_111 : xCD 125 111 = some (.if_icmp .ne 16, [127]) := rfl
theorem c125_114 : xCD 125 114 = some (.aload_n 0, []) := rfl
theorem c125_115 : xCD 125 115 = some (.aload_n 1, []) := rfl
theorem c125_116 : xCD 125 116 = some (.iload_n 3, []) := rfl
theorem c125_117 : xCD 125 117 = some (.iconst 1, []) := rfl
theorem c125_118 : xCD 125 118 = some (.iadd, []) := rfl
theorem c125_119 : xCD 125 119 = some (.iload 4, []) := rfl
theorem c125_121 : xCD 125 121 = some (.invokevirtual 140, [128, 3, 0, 746, 748, 371, 747, 749]) := rfl
theorem c125_124 : xCD 125 124 = some (.goto 32, [156]) := rfl
theorem c125_127 : xCD 125 127 = some (.iload 5, []) := rfl
theorem c125_129 : xCD 125 129 = some (.iconst 2, []) := rfl
theorem c125_130 : xCD 125 130 = some (.if_icmp .ne 16, [146]) := rfl
theorem c125_133 : xCD 125 133 = some (.aload_n 0, []) := rfl
theorem c125_134 : xCD 125 134 = some (.aload_n 1, []) := rfl
theorem c125_135 : xCD 125 135 = some (.iload_n 3, []) := rfl
theorem c125_136 : xCD 125 136 = some (.iload 4, []) := rfl
theorem c125_138 : xCD 125 138 = some (.iconst 1, []) := rfl
theorem c125_139 : xCD 125 139 = some (.isub, []) := rfl
theorem c125_140 : xCD 125 140 = some (.invokevirtual 140, [128, 3, 0, 746, 748, 371, 747, 749]) := rfl
theorem c125_143 : xCD 125 143 = some (.goto 13, [156]) := rfl
theorem c125_146 : xCD 125 146 = some (.aload_n 0, []) := rfl
theorem c125_147 : xCD 125 147 = some (.aload_n 1, []) := rfl
theorem c125_148 : xCD 125 148 = some (.iload_n 3, []) := rfl
theorem c125_149 : xCD 125 149 = some (.iload 4, []) := rfl
theorem c125_151 : xCD 125 151 = some (.iconst 1, []) := rfl
theorem c125_152 : xCD 125 152 = some (.iadd, []) := rfl
theorem c125_153 : xCD 125 153 = some (.invokevirtual 140, [128, 3, 0, 746, 748, 371, 747, 749]) := rfl
theorem c125_156 : xCD 125 156 = some (.istore 6, []) := rfl
theorem c125_158 : xCD 125 158 = some (.iload 6, []) := rfl
theorem c125_160 : xCD 125 160 = some (.iconst 4, []) := rfl
theorem c125_161 : xCD 125 161 = some (.if_icmp .ne 7, [168]) := rfl
theorem c125_164 : xCD 125 164 = some (.iconst 4, []) := rfl
theorem c125_165 : xCD 125 165 = some (.goto 4, [169]) := rfl
theorem c125_168 : xCD 125 168 = some (.iconst 0, []) := rfl
theorem c125_169 : xCD 125 169 = some (.ireturn, []) := rfl
theorem c126_0 : xCD 126 0 = some (.iload_n 1, []) := rfl
theorem c126_1 : xCD 126 1 = some (.aload_n 0, []) := rfl
theorem c126_2 : xCD 126 2 = some (.getfield 7, [7, 0, 640]) := rfl
theorem c126_5 : xCD 126 5 = some (.iconst 1, []) := rfl
theorem c126_6 : xCD 126 6 = some (.iaload, []) := rfl
theorem c126_7 : xCD 126 7 = some (.idiv, []) := rfl
theorem c126_8 : xCD 126 8 = some (.ireturn, []) := rfl
theorem c127_0 : xCD 127 0 = some (.iload_n 1, []) := rfl
theorem c127_1 : xCD 127 1 = some (.aload_n 0, []) := rfl
theorem c127_2 : xCD 127 2 = some (.getfield 7, [7, 0, 640]) := rfl
theorem c127_5 : xCD 127 5 = some (.iconst 1, []) := rfl
theorem c127_6 : xCD 127 6 = some (.iaload, []) := rfl
theorem c127_7 : xCD 127 7 = some (.irem, []) := rfl
theorem c127_8 : xCD 127 8 = some (.ireturn, []) := rfl
theorem c128_0 : xCD 128 0 = some (.iload_n 2, []) := rfl
theorem c128_1 : xCD 128 1 = some (.i2l, []) := rfl
theorem c128_2 : xCD 128 2 = some (.lconst 0, []) := rfl
theorem c128_3 : xCD 128 3 = some (.aload_n 0, []) := rfl
theorem c128_4 : xCD 128 4 = some (.getfield 7, [7, 0, 640]) := rfl
theorem c128_7 : xCD 128 7 = some (.iconst 0, []) := rfl
theorem c128_8 : xCD 128 8 = some (.iaload, []) := rfl
theorem c128_9 : xCD 128 9 = some (.iconst 1, []) := rfl
theorem c128_10 : xCD 128 10 = some (.isub, []) := rfl
theorem c128_11 : xCD 128 11 = some (.i2l, []) := rfl
theorem c128_12 : xCD 128 12 = some (.invokestatic 53, [108, 3, 0, 672, 674, 371, 673]) := rfl
theorem c128_15 : xCD 128 15 = some (.ifCond .eq 25, [40]) := rfl
theorem c128_18 : xCD 128 18 = some (.iload_n 3, []) := rfl
theorem c128_19 : xCD 128 19 = some (.i2l, []) := rfl
theorem c128_20 : xCD 128 20 = some (.lconst 0, []) := rfl
theorem c128_21 : xCD 128 21 = some (.aload_n 0, []) := rfl
theorem c128_22 : xCD 128 22 = some (.getfield 7, [7, 0, 640]) := rfl
theorem c128_25 : xCD 128 25 = some (.iconst 1, []) := rfl
theorem c128_26 : xCD 128 26 = some (.iaload, []) := rfl
theorem c128_27 : xCD 128 27 = some (.iconst 1, []) := rfl
theorem c128_28 : xCD 128 28 = some (.isub, []) := rfl
theorem c128_29 : xCD 128 29 = some (.i2l, []) := rfl
theorem c128_30 : xCD 128 30 = some (.invokestatic 53, [108, 3, 0, 672, 674, 371, 673]) := rfl
theorem c128_33 : xCD 128 33 = some (.ifCond .eq 7, [40]) := rfl
theorem c128_36 : xCD 128 36 = some (.iconst 1, []) := rfl
theorem c128_37 : xCD 128 37 = some (.goto 4, [41]) := rfl
theorem c128_40 : xCD 128 40 = some (.iconst 0, []) := rfl
theorem c128_41 : xCD 128 41 = some (.istore 4, []) := rfl
theorem c128_43 : xCD 128 43 = some (.iload 4, []) := rfl
theorem c128_45 : xCD 128 45 = some (.ifCond .eq 20, [65]) := rfl
theorem c128_48 : xCD 128 48 = some (.aload_n 1, []) := rfl
theorem c128_49 : xCD 128 49 = some (.iconst 0, []) := rfl
theorem c128_50 : xCD 128 50 = some (.iload_n 2, []) := rfl
theorem c128_51 : xCD 128 51 = some (.aload_n 0, []) := rfl
theorem c128_52 : xCD 128 52 = some (.getfield 7, [7, 0, 640]) := rfl
theorem c128_55 : xCD 128 55 = some (.iconst 1, []) := rfl
theorem c128_56 : xCD 128 56 = some (.iaload, []) := rfl
theorem c128_57 : xCD 128 57 = some (.imul, []) := rfl
theorem c128_58 : xCD 128 58 = some (.iadd, []) := rfl
theorem c128_59 : xCD 128 59 = some (.iload_n 3, []) := rfl
theorem c128_60 : xCD 128 60 = some (.iadd, []) := rfl
theorem c128_61 : xCD 128 61 = some (.iaload, []) := rfl
theorem c128_62 : xCD 128 62 = some (.goto 5, [67]) := rfl
theorem c128_65 : xCD 128 65 = some (.bipush (-4), []) := rfl
theorem c128_67 : xCD 128 67 = some (.ireturn, []) := rfl
theorem c129_0 : xCD 129 0 = some (.aload_n 0, []) := rfl
theorem c129_1 : xCD 129 1 = some (.aload_n 1, []) := rfl
theorem c129_2 : xCD 129 2 = some (.iload_n 2, []) := rfl
theorem c129_3 : xCD 129 3 = some (.invokevirtual 144, [125, 2, 0, 730, 732, 371, 731, 733]) := rfl
theorem c129_6 : xCD 129 6 = some (.istore_n 3, []) := rfl
theorem c129_7 : xCD 129 7 = some (.aload_n 0, []) := rfl
theorem c129_8 : xCD 129 8 = some (.getfield 7, [7, 0, 640]) := rfl
theorem c129_11 : xCD 129 11 = some (.bipush 9, []) := rfl
theorem c129_13 : xCD 129 13 = some (.iload_n 2, []) := rfl
theorem c129_14 : xCD 129 14 = some (.iadd, []) := rfl
theorem c129_15 : xCD 129 15 = some (.iaload, []) := rfl
theorem c129_16 : xCD 129 16 = some (.istore 4, []) := rfl
theorem c129_18 : xCD 129 18 = some (.iload_n 3, []) := rfl
theorem c129_19 : xCD 129 19 = some (.iload 4, []) := rfl
theorem c129_21 : xCD 129 21 = some (.if_icmp .ne 5, [26]) := rfl
theorem c129_24 : xCD 129 24 = some (.iconst 0, []) := rfl
theorem c129_25 : xCD 129 25 = some (.ireturn, []) := rfl
theorem c129_26 : xCD 129 26 = some (.iload_n 3, []) := rfl
theorem c129_27 : xCD 129 27 = some (.invokestatic 148, [130, 1, 0, 750, 752, 371, 751]) := rfl
theorem c129_30 : xCD 129 30 = some (.istore 5, []) := rfl
theorem c129_32 : xCD 129 32 = some (.iload 4, []) := rfl
theorem c129_34 : xCD 129 34 = some (.invokestatic 148, [130, 1, 0, 750, 752, 371, 751]) := rfl
theorem c129_37 : xCD 129 37 = some (.istore 6, []) := rfl
theorem c129_39 : xCD 129 39 = some (.iconst 5, []) := rfl
theorem c129_40 : xCD 129 40 = some (.aload_n 0, []) := rfl
theorem c129_41 : xCD 129 41 = some (.iload_n 2, []) := rfl
theorem c129_42 : xCD 129 42 = some (.invokevirtual 133, [126, 1, 0, 738, 740, 371, 739, 741]) := rfl
theorem c129_45 : xCD 129 45 = some (.aload_n 0, []) := rfl
theorem c129_46 : xCD 129 46 = some (.aload_n 1, []) := rfl
theorem c129_47 : xCD 129 47 = some (.bipush 109, []) := rfl
theorem c129_49 : xCD 129 49 = some (.iaload, []) := rfl
theorem c129_50 : xCD 129 50 = some (.invokevirtual 133, [126, 1, 0, 738, 740, 371, 739, 741]) := rfl
theorem c129_53 : xCD 129 53 = some (.isub, []) := rfl
theorem c129_54 : xCD 129 54 = some (.invokestatic 151, [131, 1, 0, 753, 755, 371, 754]) := rfl
theorem c129_57 : xCD 129 57 = some (.isub, []) := rfl
theorem c129_58 : xCD 129 58 = some (.aload_n 0, []) := rfl
theorem c129_59 : xCD 129 59 = some (.iload_n 2, []) := rfl
theorem c129_60 : xCD 129 60 = some (.invokevirtual 137, [127, 1, 0, 742, 744, 371, 743, 745]) := rfl
theorem c129_63 : xCD 129 63 = some (.aload_n 0, []) := rfl
theorem c129_64 : xCD 129 64 = some (.aload_n 1, []) := rfl
theorem c129_65 : xCD 129 65 = some (.bipush 109, []) := rfl
theorem c129_67 : xCD 129 67 = some (.iaload, []) := rfl
theorem c129_68 : xCD 129 68 = some (.invokevirtual 137, [127, 1, 0, 742, 744, 371, 743, 745]) := rfl
theorem c129_71 : xCD 129 71 = some (.isub, []) := rfl
theorem c129_72 : xCD 129 72 = some (.invokestatic 151, [131, 1, 0, 753, 755, 371, 754]) := rfl
theorem c129_75 : xCD 129 75 = some (.isub, []) := rfl
theorem c129_76 : xCD 129 76 = some (.istore 7, []) := rfl
theorem c129_78 : xCD 129 78 = some (.iload 5, []) := rfl
theorem c129_80 : xCD 129 80 = some (.iload 6, []) := rfl
theorem c129_82 : xCD 129 82 = some (.if_icmp .le 8, [90]) := rfl
theorem c129_85 : xCD 129 85 = some (.iload 5, []) := rfl
theorem c129_87 : xCD 129 87 = some (.goto 5, [92]) := rfl
theorem c129_90 : xCD 129 90 = some (.iload 6, []) := rfl
theorem c129_92 : xCD 129 92 = some (.iload 7, []) := rfl
theorem c129_94 : xCD 129 94 = some (.iconst 1, []) := rfl
theorem c129_95 : xCD 129 95 = some (.if_icmp .ge 7, [102]) := rfl
theorem c129_98 : xCD 129 98 = some (.iconst 1, []) := rfl
theorem c129_99 : xCD 129 99 = some (.goto 5, [104]) := rfl
theorem c129_102 : xCD 129 102 = some (.iload 7, []) := rfl
theorem c129_104 : xCD 129 104 = some (.imul, []) := rfl
theorem c129_105 : xCD 129 105 = some (.ireturn, []) := rfl
theorem c130_0 : xCD 130 0 = some (.iload_n 0, []) := rfl
theorem c130_1 : xCD 130 1 = some (.tableswitch 51 0 6 #[43, 45, 47, 51, 51, 47, 49], [52, 44, 46, 48, 52, 52, 48, 50]) := rfl
theorem c130_44 : xCD 130 44 = some (.iconst 0, []) := rfl
theorem c130_45 : xCD 130 45 = some (.ireturn, []) := rfl
theorem c130_46 : xCD 130 46 = some (.iconst 4, []) := rfl
theorem c130_47 : xCD 130 47 = some (.ireturn, []) := rfl
theorem c130_48 : xCD 130 48 = some (.iconst 3, []) := rfl
theorem c130_49 : xCD 130 49 = some (.ireturn, []) := rfl
theorem c130_50 : xCD 130 50 = some (.iconst 1, []) := rfl
theorem c130_51 : xCD 130 51 = some (.ireturn, []) := rfl
theorem c130_52 : xCD 130 52 = some (.iconst 2, []) := rfl
theorem c130_53 : xCD 130 53 = some (.ireturn, []) := rfl
theorem c131_0 : xCD 131 0 = some (.iload_n 0, []) := rfl
theorem c131_1 : xCD 131 1 = some (.ifCond .ge 8, [9]) := rfl
theorem c131_4 : xCD 131 4 = some (.iload_n 0, []) := rfl
theorem c131_5 : xCD 131 5 = some (.ineg, []) := rfl
theorem c131_6 : xCD 131 6 = some (.goto 4, [10]) := rfl
theorem c131_9 : xCD 131 9 = some (.iload_n 0, []) := rfl
theorem c131_10 : xCD 131 10 = some (.ireturn, []) := rfl
theorem c132_0 : xCD 132 0 = some (.iload_n 1, []) := rfl
theorem c132_1 : xCD 132 1 = some (.ifCond .ne 14, [15]) := rfl
theorem c132_4 : xCD 132 4 = some (.aload_n 0, []) := rfl
theorem c132_5 : xCD 132 5 = some (.aload_n 0, []) := rfl
theorem c132_6 : xCD 132 6 = some (.getfield 16, [7, 2, 642]) := rfl
theorem c132_9 : xCD 132 9 = some (.invokevirtual 157, [133, 1, 0, 756, 758, 371, 757, 759]) := rfl
theorem c132_12 : xCD 132 12 = some (.goto 40, [52]) := rfl
theorem c132_15 : xCD 132 15 = some (.iload_n 1, []) := rfl
theorem c132_16 : xCD 132 16 = some (.iconst 1, []) := rfl
theorem c132_17 : xCD 132 17 = some (.if_icmp .ne 22, [39]) := rfl
theorem c132_20 : xCD 132 20 = some (.aload_n 0, []) := rfl
theorem c132_21 : xCD 132 21 = some (.aload_n 0, []) := rfl
theorem c132_22 : xCD 132 22 = some (.getfield 16, [7, 2, 642]) := rfl
theorem c132_25 : xCD 132 25 = some (.invokevirtual 164, [134, 1, 0, 760, 762, 371, 761, 763]) := rfl
theorem c132_28 : xCD 132 28 = some (.ifCond .eq 7, [35]) := rfl
theorem c132_31 : xCD 132 31 = some (.iconst 1, []) := rfl
theorem c132_32 : xCD 132 32 = some (.goto 20, [52]) := rfl
theorem c132_35 : xCD 132 35 = some (.iconst 0, []) := rfl
theorem c132_36 : xCD 132 36 = some (.goto 16, [52]) := rfl
theorem c132_39 : xCD 132 39 = some (.iload_n 1, []) := rfl
theorem c132_40 : xCD 132 40 = some (.iconst 2, []) := rfl
theorem c132_41 : xCD 132 41 = some (.if_icmp .ne 10, [51]) := rfl
theorem c132_44 : xCD 132 44 = some (.aload_n 0, []) := rfl
theorem c132_45 : xCD 132 45 = some (.invokevirtual 168, [135, 0, 0, 764, 766, 371, 765, 767]) := rfl
theorem c132_48 : xCD 132 48 = some (.goto 4, [52]) := rfl
theorem c132_51 : xCD 132 51 = some (.iconst (-1), []) := rfl
theorem c132_52 : xCD 132 52 = some (.ireturn, []) := rfl
theorem c133_0 : xCD 133 0 = some (.iconst 0, []) := rfl
theorem c133_1 : xCD 133 1 = some (.istore_n 2, []) := rfl
theorem c133_2 : xCD 133 2 = some (.iconst 0, []) := rfl
theorem c133_3 : xCD 133 3 = some (.istore_n 3, []) := rfl
theorem c133_4 : xCD 133 4 = some (.iconst 0, []) := rfl
theorem c133_5 : xCD 133 5 = some (.istore 4, []) := rfl
theorem c133_7 : xCD 133 7 = some (.iload 4, []) := rfl
theorem c133_9 : xCD 133 9 = some (.aload_n 0, []) := rfl
theorem c133_10 : xCD 133 10 = some (.invokevirtual 130, [122, 0, 0, 722, 724, 371, 723, 725]) := rfl
theorem c133_13 : xCD 133 13 = some (.if_icmp .ge 48, [61]) := rfl
theorem c133_16 : xCD 133 16 = some (.aload_n 0, []) := rfl
theorem c133_17 : xCD 133 17 = some (.aload_n 1, []) := rfl
theorem c133_18 : xCD 133 18 = some (.iload 4, []) := rfl
theorem c133_20 : xCD 133 20 = some (.invokevirtual 154, [129, 2, 0, 734, 736, 371, 735, 737]) := rfl
theorem c133_23 : xCD 133 23 = some (.istore 5, []) := rfl
theorem c133_25 : xCD 133 25 = some (.iload_n 2, []) := rfl
theorem c133_26 : xCD 133 26 = some (.iload 5, []) := rfl
theorem c133_28 : xCD 133 28 = some (.iconst 4, []) := rfl
theorem c133_29 : xCD 133 29 = some (.if_icmp .ge 8, [37]) := rfl
theorem c133_32 : xCD 133 32 = some (.iload 5, []) := rfl
theorem c133_34 : xCD 133 34 = some (.goto 4, [38]) := rfl
theorem c133_37 : xCD 133 37 = some (.iconst 0, []) := rfl
theorem c133_38 : xCD 133 38 = some (.iadd, []) := rfl
theorem c133_39 : xCD 133 39 = some (.istore_n 2, []) := rfl
theorem c133_40 : xCD 133 40 = some (.iload_n 3, []) := rfl
theorem c133_41 : xCD 133 41 = some (.iload 5, []) := rfl
theorem c133_43 : xCD 133 43 = some (.iconst 4, []) := rfl
theorem c133_44 : xCD 133 44 = some (.if_icmp .ge 7, [51]) := rfl
theorem c133_47 : xCD 133 47 = some (.iconst 0, []) := rfl
theorem c133_48 : xCD 133 48 = some (.goto 5, [53]) := rfl
theorem c133_51 : xCD 133 51 = some (.iload 5, []) := rfl
theorem c133_53 : xCD 133 53 = some (.iadd, []) := rfl
theorem c133_54 : xCD 133 54 = some (.istore_n 3, []) := rfl
theorem c133_55 : xCD 133 55 = some (.iinc 4 1, []) := rfl
theorem c133_58 : xCD 133 58 = some (.goto (-51), [7]) := rfl
theorem c133_61 : xCD 133 61 = some (.iload_n 3, []) := rfl
theorem c133_62 : xCD 133 62 = some (.iload_n 2, []) := rfl
theorem c133_63 : xCD 133 63 = some (.iconst 3, []) := rfl
theorem c133_64 : xCD 133 64 = some (.idiv, []) := rfl
theorem c133_65 : xCD 133 65 = some (.iadd, []) := rfl
theorem c133_66 : xCD 133 66 = some (.ireturn, []) := rfl
theorem c134_0 : xCD 134 0 = some (.aload_n 0, []) := rfl
theorem c134_1 : xCD 134 1 = some (.aload_n 1, []) := rfl
theorem c134_2 : xCD 134 2 = some (.invokevirtual 157, [133, 1, 0, 756, 758, 371, 757, 759]) := rfl
theorem c134_5 : xCD 134 5 = some (.aload_n 0, []) := rfl
theorem c134_6 : xCD 134 6 = some (.getfield 7, [7, 0, 640]) := rfl
theorem c134_9 : xCD 134 9 = some (.iconst 2, []) := rfl
theorem c134_10 : xCD 134 10 = some (.iaload, []) := rfl
theorem c134_11 : xCD 134 11 = some (.if_icmp .gt 7, [18]) := rfl
theorem c134_14 : xCD 134 14 = some (.iconst 1, []) := rfl
theorem c134_15 : xCD 134 15 = some (.goto 4, [19]) := rfl
theorem c134_18 : xCD 134 18 = some (.iconst 0, []) := rfl
theorem c134_19 : xCD 134 19 = some (.ireturn, []) := rfl
theorem c135_0 : xCD 135 0 = some (.iconst 0, []) := rfl
theorem c135_1 : xCD 135 1 = some (.istore_n 1, []) := rfl
theorem c135_2 : xCD 135 2 = some (.iconst 0, []) := rfl
theorem c135_3 : xCD 135 3 = some (.istore_n 2, []) := rfl
theorem c135_4 : xCD 135 4 = some (.iload_n 2, []) := rfl
theorem c135_5 : xCD 135 5 = some (.aload_n 0, []) := rfl
theorem c135_6 : xCD 135 6 = some (.invokevirtual 130, [122, 0, 0, 722, 724, 371, 723, 725]) := rfl
theorem c135_9 : xCD 135 9 = some (.if_icmp .ge 38, [47]) := rfl
theorem c135_12 : xCD 135 12 = some (.iload_n 1, []) := rfl
theorem c135_13 : xCD 135 13 = some (.aload_n 0, []) := rfl
theorem c135_14 : xCD 135 14 = some (.aload_n 0, []) := rfl
theorem c135_15 : xCD 135 15 = some (.getfield 16, [7, 2, 642]) := rfl
theorem c135_18 : xCD 135 18 = some (.iload_n 2, []) := rfl
theorem c135_19 : xCD 135 19 = some (.invokevirtual 144, [125, 2, 0, 730, 732, 371, 731, 733]) := rfl
theorem c135_22 : xCD 135 22 = some (.aload_n 0, []) := rfl
theorem c135_23 : xCD 135 23 = some (.getfield 7, [7, 0, 640]) := rfl
theorem c135_26 : xCD 135 26 = some (.bipush 9, []) := rfl
theorem c135_28 : xCD 135 28 = some (.iload_n 2, []) := rfl
theorem c135_29 : xCD 135 29 = some (.iadd, []) := rfl
theorem c135_30 : xCD 135 30 = some (.iaload, []) := rfl
theorem c135_31 : xCD 135 31 = some (.if_icmp .ne 7, [38]) := rfl
theorem c135_34 : xCD 135 34 = some (.iconst 0, []) := rfl
theorem c135_35 : xCD 135 35 = some (.goto 4, [39]) := rfl
theorem c135_38 : xCD 135 38 = some (.iconst 1, []) := rfl
theorem c135_39 : xCD 135 39 = some (.iadd, []) := rfl
theorem c135_40 : xCD 135 40 = some (.istore_n 1, []) := rfl
theorem c135_41 : xCD 135 41 = some (.iinc 2 1, []) := rfl
theorem c135_44 : xCD 135 44 = some (.goto (-40), [4]) := rfl
theorem c135_47 : xCD 135 47 = some (.iload_n 1, []) := rfl
theorem c135_48 : xCD 135 48 = some (.ireturn, []) := rfl
theorem c136_0 : xCD 136 0 = some (.aload_n 0, []) := rfl
theorem c136_1 : xCD 136 1 = some (.iload_n 1, []) := rfl
theorem c136_2 : xCD 136 2 = some (.invokevirtual 161, [124, 1, 0, 726, 728, 371, 727, 729]) := rfl
theorem c136_5 : xCD 136 5 = some (.ifCond .ne 5, [10]) := rfl
theorem c136_8 : xCD 136 8 = some (.iconst (-1), []) := rfl
theorem c136_9 : xCD 136 9 = some (.ireturn, []) := rfl
theorem c136_10 : xCD 136 10 = some (.aload_n 0, []) := rfl
theorem c136_11 : xCD 136 11 = some (.getfield 7, [7, 0, 640]) := rfl
theorem c136_14 : xCD 136 14 = some (.bipush 9, []) := rfl
theorem c136_16 : xCD 136 16 = some (.iload_n 1, []) := rfl
theorem c136_17 : xCD 136 17 = some (.iadd, []) := rfl
theorem c136_18 : xCD 136 18 = some (.iaload, []) := rfl
theorem c136_19 : xCD 136 19 = some (.istore_n 2, []) := rfl
theorem c136_20 : xCD 136 20 = some (.aload_n 0, []) := rfl
theorem c136_21 : xCD 136 21 = some (.getfield 16, [7, 2, 642]) := rfl
theorem c136_24 : xCD 136 24 = some (.iconst 0, []) := rfl
theorem c136_25 : xCD 136 25 = some (.iload_n 1, []) := rfl
theorem c136_26 : xCD 136 26 = some (.iadd, []) := rfl
theorem c136_27 : xCD 136 27 = some (.iaload, []) := rfl
theorem c136_28 : xCD 136 28 = some (.iload_n 2, []) := rfl
theorem c136_29 : xCD 136 29 = some (.if_icmp .ne 6, [35]) := rfl
theorem c136_32 : xCD 136 32 = some (.bipush (-2), []) := rfl
theorem c136_34 : xCD 136 34 = some (.ireturn, []) := rfl
theorem c136_35 : xCD 136 35 = some (.aload_n 0, []) := rfl
theorem c136_36 : xCD 136 36 = some (.invokevirtual 171, [137, 0, 0, 768, 770, 371, 769, 771]) := rfl
theorem c136_39 : xCD 136 39 = some (.aload_n 0, []) := rfl
theorem c136_40 : xCD 136 40 = some (.getfield 16, [7, 2, 642]) := rfl
theorem c136_43 : xCD 136 43 = some (.iload_n 1, []) := rfl
theorem c136_44 : xCD 136 44 = some (.iload_n 2, []) := rfl
theorem c136_45 : xCD 136 45 = some (.invokestatic 174, [138, 3, 0, 772, 774, 371, 773]) := rfl
theorem c136_48 : xCD 136 48 = some (.iload_n 2, []) := rfl
theorem c136_49 : xCD 136 49 = some (.invokestatic 148, [130, 1, 0, 750, 752, 371, 751]) := rfl
theorem c136_52 : xCD 136 52 = some (.ireturn, []) := rfl
theorem c137_0 : xCD 137 0 = some (.aload_n 0, []) := rfl
theorem c137_1 : xCD 137 1 = some (.getfield 118, [7, 5, 667]) := rfl
theorem c137_4 : xCD 137 4 = some (.bipush 8, []) := rfl
theorem c137_6 : xCD 137 6 = some (.if_icmp .ne 43, [49]) := rfl
theorem c137_9 : xCD 137 9 = some (.iconst 0, []) := rfl
theorem c137_10 : xCD 137 10 = some (.istore_n 1, []) := rfl
theorem c137_11 : xCD 137 11 = some (.iload_n 1, []) := rfl
theorem c137_12 : xCD 137 12 = some (.sipush 777, []) := rfl
theorem c137_15 : xCD 137 15 = some (.if_icmp .ge 24, [39]) := rfl
theorem c137_18 : xCD 137 18 = some (.aload_n 0, []) := rfl
theorem c137_19 : xCD 137 19 = some (.getfield 22, [7, 4, 644]) := rfl
theorem c137_22 : xCD 137 22 = some (.iload_n 1, []) := rfl
theorem c137_23 : xCD 137 23 = some (.aload_n 0, []) := rfl
theorem c137_24 : xCD 137 24 = some (.getfield 22, [7, 4, 644]) := rfl
theorem c137_27 : xCD 137 27 = some (.iload_n 1, []) := rfl
theorem c137_28 : xCD 137 28 = some (.bipush 111, []) := rfl
theorem c137_30 : xCD 137 30 = some (.iadd, []) := rfl
theorem c137_31 : xCD 137 31 = some (.iaload, []) := rfl
theorem c137_32 : xCD 137 32 = some (.iastore, []) := rfl
theorem c137_33 : xCD 137 33 = some (.iinc 1 1, []) := rfl
theorem c137_36 : xCD 137 36 = some (.goto (-25), [11]) := rfl
theorem c137_39 : xCD 137 39 = some (.aload_n 0, []) := rfl
theorem c137_40 : xCD 137 40 = some (.dup, []) := rfl
theorem c137_41 : xCD 137 41 = some (.getfield 118, [7, 5, 667]) := rfl
theorem c137_44 : xCD 137 44 = some (.iconst 1, []) := rfl
theorem c137_45 : xCD 137 45 = some (.isub, []) := rfl
theorem c137_46 : xCD 137 46 = some (.putfield 118, [7, 5, 667]) := rfl
theorem c137_49 : xCD 137 49 = some (.aload_n 0, []) := rfl
theorem c137_50 : xCD 137 50 = some (.getfield 16, [7, 2, 642]) := rfl
theorem c137_53 : xCD 137 53 = some (.iconst 0, []) := rfl
theorem c137_54 : xCD 137 54 = some (.aload_n 0, []) := rfl
theorem c137_55 : xCD 137 55 = some (.getfield 22, [7, 4, 644]) := rfl
theorem c137_58 : xCD 137 58 = some (.bipush 111, []) := rfl
theorem c137_60 : xCD 137 60 = some (.aload_n 0, []) := rfl
theorem c137_61 : xCD 137 61 = some (.getfield 118, [7, 5, 667]) := rfl
theorem c137_64 : xCD 137 64 = some (.imul, []) := rfl
theorem c137_65 : xCD 137 65 = some (.bipush 111, []) := rfl
theorem c137_67 : xCD 137 67 = some (.invokestatic 92, [106, 5, 0, 664, 666, 371, 665]) := rfl
theorem c137_70 : xCD 137 70 = some (.aload_n 0, []) := rfl
theorem c137_71 : xCD 137 71 = some (.dup, []) := rfl
theorem c137_72 : xCD 137 72 = some (.getfield 118, [7, 5, 667]) := rfl
theorem c137_75 : xCD 137 75 = some (.iconst 1, []) := rfl
theorem c137_76 : xCD 137 76 = some (.iadd, []) := rfl
theorem c137_77 : xCD 137 77 = some (.putfield 118, [7, 5, 667]) := rfl
theorem c137_80 : xCD 137 80 = some (.return_, []) := rfl
theorem c138_0 : xCD 138 0 = some (.aload_n 0, []) := rfl
theorem c138_1 : xCD 138 1 = some (.iconst 0, []) := rfl
theorem c138_2 : xCD 138 2 = some (.iload_n 1, []) := rfl
theorem c138_3 : xCD 138 3 = some (.iadd, []) := rfl
theorem c138_4 : xCD 138 4 = some (.iload_n 2, []) := rfl
theorem c138_5 : xCD 138 5 = some (.iastore, []) := rfl
theorem c138_6 : xCD 138 6 = some (.aload_n 0, []) := rfl
theorem c138_7 : xCD 138 7 = some (.bipush 36, []) := rfl
theorem c138_9 : xCD 138 9 = some (.iload_n 1, []) := rfl
theorem c138_10 : xCD 138 10 = some (.iadd, []) := rfl
theorem c138_11 : xCD 138 11 = some (.iconst 0, []) := rfl
theorem c138_12 : xCD 138 12 = some (.iastore, []) := rfl
theorem c138_13 : xCD 138 13 = some (.return_, []) := rfl
theorem c139_0 : xCD 139 0 = some (.aload_n 0, []) := rfl
theorem c139_1 : xCD 139 1 = some (.iload_n 1, []) := rfl
theorem c139_2 : xCD 139 2 = some (.invokevirtual 161, [124, 1, 0, 726, 728, 371, 727, 729]) := rfl
theorem c139_5 : xCD 139 5 = some (.ifCond .eq 15, [20]) := rfl
theorem c139_8 : xCD 139 8 = some (.iload_n 2, []) := rfl
theorem c139_9 : xCD 139 9 = some (.i2l, []) := rfl
theorem c139_10 : xCD 139 10 = some (.lconst 0, []) := rfl
theorem c139_11 : xCD 139 11 = some (.ldc2_w 178, [7, 775]) := rfl
theorem c139_14 : xCD 139 14 = some (.invokestatic 53, [108, 3, 0, 672, 674, 371, 673]) := rfl
theorem c139_17 : xCD 139 17 = some (.ifCond .ne 5, [22]) := rfl
theorem c139_20 : xCD 139 20 = some (.iconst (-1), []) := rfl
theorem c139_21 : xCD 139 21 = some (.ireturn, []) := rfl
theorem c139_22 : xCD 139 22 = some (.aload_n 0, []) := rfl
theorem c139_23 : xCD 139 23 = some (.getfield 16, [7, 2, 642]) := rfl
theorem c139_26 : xCD 139 26 = some (.iconst 0, []) := rfl
theorem c139_27 : xCD 139 27 = some (.iload_n 1, []) := rfl
theorem c139_28 : xCD 139 28 = some (.iadd, []) := rfl
theorem c139_29 : xCD 139 29 = some (.iaload, []) := rfl
theorem c139_30 : xCD 139 30 = some (.istore_n 3, []) := rfl
theorem c139_31 : xCD 139 31 = some (.iload_n 3, []) := rfl
theorem c139_32 : xCD 139 32 = some (.iload_n 2, []) := rfl
theorem c139_33 : xCD 139 33 = some (.if_icmp .ne 6, [39]) := rfl
theorem c139_36 : xCD 139 36 = some (.bipush (-2), []) := rfl
theorem c139_38 : xCD 139 38 = some (.ireturn, []) := rfl
theorem c139_39 : xCD 139 39 = some (.aload_n 0, []) := rfl
theorem c139_40 : xCD 139 40 = some (.invokevirtual 171, [137, 0, 0, 768, 770, 371, 769, 771]) := rfl
theorem c139_43 : xCD 139 43 = some (.aload_n 0, []) := rfl
theorem c139_44 : xCD 139 44 = some (.getfield 16, [7, 2, 642]) := rfl
theorem c139_47 : xCD 139 47 = some (.iload_n 1, []) := rfl
theorem c139_48 : xCD 139 48 = some (.iload_n 2, []) := rfl
theorem c139_49 : xCD 139 49 = some (.invokestatic 174, [138, 3, 0, 772, 774, 371, 773]) := rfl
theorem c139_52 : xCD 139 52 = some (.iload_n 3, []) := rfl
theorem c139_53 : xCD 139 53 = some (.ireturn, []) := rfl
theorem c140_0 : xCD 140 0 = some (.aload_n 0, []) := rfl
theorem c140_1 : xCD 140 1 = some (.invokevirtual 171, [137, 0, 0, 768, 770, 371, 769, 771]) := rfl
theorem c140_4 : xCD 140 4 = some (.iconst 0, []) := rfl
theorem c140_5 : xCD 140 5 = some (.istore_n 1, []) := rfl
theorem c140_6 : xCD 140 6 = some (.iconst 0, []) := rfl
theorem c140_7 : xCD 140 7 = some (.istore_n 2, []) := rfl
theorem c140_8 : xCD 140 8 = some (.iload_n 2, []) := rfl
theorem c140_9 : xCD 140 9 = some (.bipush 36, []) := rfl
theorem c140_11 : xCD 140 11 = some (.if_icmp .ge 40, [51]) := rfl
theorem c140_14 : xCD 140 14 = some (.iload_n 1, []) := rfl
theorem c140_15 : xCD 140 15 = some (.aload_n 0, []) := rfl
theorem c140_16 : xCD 140 16 = some (.getfield 16, [7, 2, 642]) := rfl
theorem c140_19 : xCD 140 19 = some (.bipush 36, []) := rfl
theorem c140_21 : xCD 140 21 = some (.iload_n 2, []) := rfl
theorem c140_22 : xCD 140 22 = some (.iadd, []) := rfl
theorem c140_23 : xCD 140 23 = some (.iaload, []) := rfl
theorem c140_24 : xCD 140 24 = some (.iconst 2, []) := rfl
theorem c140_25 : xCD 140 25 = some (.if_icmp .le 7, [32]) := rfl
theorem c140_28 : xCD 140 28 = some (.iconst 1, []) := rfl
theorem c140_29 : xCD 140 29 = some (.goto 4, [33]) := rfl
theorem c140_32 : xCD 140 32 = some (.iconst 0, []) := rfl
theorem c140_33 : xCD 140 33 = some (.iadd, []) := rfl
theorem c140_34 : xCD 140 34 = some (.istore_n 1, []) := rfl
theorem c140_35 : xCD 140 35 = some (.aload_n 0, []) := rfl
theorem c140_36 : xCD 140 36 = some (.getfield 16, [7, 2, 642]) := rfl
theorem c140_39 : xCD 140 39 = some (.bipush 36, []) := rfl
theorem c140_41 : xCD 140 41 = some (.iload_n 2, []) := rfl
theorem c140_42 : xCD 140 42 = some (.iadd, []) := rfl
theorem c140_43 : xCD 140 43 = some (.iconst 0, []) := rfl
theorem c140_44 : xCD 140 44 = some (.iastore, []) := rfl
theorem c140_45 : xCD 140 45 = some (.iinc 2 1, []) := rfl
theorem c140_48 : xCD 140 48 = some (.goto (-40), [8]) := rfl
theorem c140_51 : xCD 140 51 = some (.iload_n 1, []) := rfl
theorem c140_52 : xCD 140 52 = some (.ireturn, []) := rfl
section
variable {X : Nat × (Nat → Int32)} {C : Nat → List Value → xHp → Option Value → xHp → Prop} {Q : Option Value → xHp → Prop} {D : zD} {ct : zM}
-- ('PaintedTownModel', 'clean', '()V')
theorem b103_0 {l1 : Value} (kk : RUN X C 103 Q 2 [.ref 33, .int (nI 0)] [] (mk (zDm D) ct)) : RUN X C 103 Q 0 [.ref 33, l1] [] (mk (zDm D) ct) :=
  s_const c103_0 zcI_0 <|
  s_istore_n c103_1 (Nat.le_of_ble_eq_true rfl) True.intro <|
  kk
theorem b103_2 {x1 : Int32} (k1 : (nI 81) ≤ x1 → RUN X C 103 Q 21 [.ref 33, .int x1] [] (mk (zDm D) ct)) (k2 : ¬ (nI 81) ≤ x1 → RUN X C 103 Q 8 [.ref 33, .int x1] [] (mk (zDm D) ct)) : RUN X C 103 Q 2 [.ref 33, .int x1] [] (mk (zDm D) ct) :=
  s_iload_n c103_2 rfl <|
  s_bipush c103_3 zcB_81 <|
  s_icge c103_5 k1 k2
theorem b103_8 {x1 : Int32} {j14 : Nat} (hx14 : zix x1 j14 81) (kk : RUN X C 103 Q 2 [.ref 33, .int (x1 + nI 1)] [] (mk (zDm D) (u2 ct 35 j14 (nI 0)))) : RUN X C 103 Q 8 [.ref 33, .int x1] [] (mk (zDm D) ct) :=
  s_aload_n c103_8 rfl <|
  s_getf (ct := ct) c103_9 rfl (by decide) rfl <|
  s_iload_n c103_12 rfl <|
  s_const c103_13 zcI_0 <|
  s_iast (ct := ct) c103_14 rfl hx14 <|
  s_iinc c103_15 rfl True.intro zcI_1 <|
  s_goto c103_18 <|
  kk
theorem b103_21 {x1 : Int32} (hq : Q none (mk (zDm D) (u2 (u2 (u2 (u2 (u2 ct 35 0 (nI 4)) 35 1 (nI 5)) 35 2 (nI 10)) 35 3 (nI 10)) 33 12 (nI 1)))) : RUN X C 103 Q 21 [.ref 33, .int x1] [] (mk (zDm D) ct) :=
  s_aload_n c103_21 rfl <|
  s_getf (ct := ct) c103_22 rfl (by decide) rfl <|
  s_const c103_25 zcI_0 <|
  s_const c103_26 zcI_4 <|
  s_iast (ct := ct) c103_27 rfl (zix_nI (by decide) (by decide)) <|
  s_aload_n c103_28 rfl <|
  s_getf (ct := (u2 ct 35 0 (nI 4))) c103_29 rfl (by decide) rfl <|
  s_const c103_32 zcI_1 <|
  s_const c103_33 zcI_5 <|
  s_iast (ct := (u2 ct 35 0 (nI 4))) c103_34 rfl (zix_nI (by decide) (by decide)) <|
  s_aload_n c103_35 rfl <|
  s_getf (ct := (u2 (u2 ct 35 0 (nI 4)) 35 1 (nI 5))) c103_36 rfl (by decide) rfl <|
  s_const c103_39 zcI_2 <|
  s_bipush c103_40 zcB_10 <|
  s_iast (ct := (u2 (u2 ct 35 0 (nI 4)) 35 1 (nI 5))) c103_42 rfl (zix_nI (by decide) (by decide)) <|
  s_aload_n c103_43 rfl <|
  s_getf (ct := (u2 (u2 (u2 ct 35 0 (nI 4)) 35 1 (nI 5)) 35 2 (nI 10))) c103_44 rfl (by decide) rfl <|
  s_const c103_47 zcI_3 <|
  s_bipush c103_48 zcB_10 <|
  s_iast (ct := (u2 (u2 (u2 ct 35 0 (nI 4)) 35 1 (nI 5)) 35 2 (nI 10))) c103_50 rfl (zix_nI (by decide) (by decide)) <|
  s_aload_n c103_51 rfl <|
  s_const c103_52 zcI_1 <|
  s_putf (ct := (u2 (u2 (u2 (u2 ct 35 0 (nI 4)) 35 1 (nI 5)) 35 2 (nI 10)) 35 3 (nI 10))) c103_53 rfl (by decide) zint_7_12 (xfit_7_12 (Or.inr rfl)) <|
  s_ret c103_56 rfl hq
-- ('PaintedTownModel', 'should', '(II)V')
theorem b104_0 {x1 : Int32} {x2 : Int32} {j9 : Nat} (hx9 : zix ((nI 9) + x1) j9 81) {j19 : Nat} (hx19 : zix ((nI 45) + x1) j19 81) (hq : Q none (mk (zDm D) (u2 (u2 ct 35 j9 x2) 35 j19 x2))) : RUN X C 104 Q 0 [.ref 33, .int x1, .int x2] [] (mk (zDm D) ct) :=
  s_aload_n c104_0 rfl <|
  s_getf (ct := ct) c104_1 rfl (by decide) rfl <|
  s_bipush c104_4 zcB_9 <|
  s_iload_n c104_6 rfl <|
  s_iadd c104_7 <|
  s_iload_n c104_8 rfl <|
  s_iast (ct := ct) c104_9 rfl hx9 <|
  s_aload_n c104_10 rfl <|
  s_getf (ct := (u2 ct 35 j9 x2)) c104_11 rfl (by decide) rfl <|
  s_bipush c104_14 zcB_45 <|
  s_iload_n c104_16 rfl <|
  s_iadd c104_17 <|
  s_iload_n c104_18 rfl <|
  s_iast (ct := (u2 ct 35 j9 x2)) c104_19 rfl hx19 <|
  s_ret c104_20 rfl hq
-- ('PaintedTownModel', 'begins', '()V')
theorem b105_0 {l1 : Value} {D1 : zD} {ct1 : zM} (he : C 106 [.ref 35, .int (nI 0), .ref 34, .int (nI 0), .int (nI 81)] (mk (zDm D) ct) none (mk D1 ct1)) (kk : RUN X C 105 Q 15 [.ref 33, l1] [] (mk D1 ct1)) : RUN X C 105 Q 0 [.ref 33, l1] [] (mk (zDm D) ct) :=
  s_aload_n c105_0 rfl <|
  s_getf (ct := ct) c105_1 rfl (by decide) rfl <|
  s_const c105_4 zcI_0 <|
  s_aload_n c105_5 rfl <|
  s_getf (ct := ct) c105_6 rfl (by decide) rfl <|
  s_const c105_9 zcI_0 <|
  s_bipush c105_10 zcB_81 <|
  s_calls (args := [.ref 35, .int (nI 0), .ref 34, .int (nI 0), .int (nI 81)]) (r := []) c105_12 rfl rfl (Nat.le_of_ble_eq_true rfl) he kk
theorem b105_15 {l1 : Value} (kk : RUN X C 105 Q 17 [.ref 33, .int (nI 0)] [] (mk (zDm D) ct)) : RUN X C 105 Q 15 [.ref 33, l1] [] (mk (zDm D) ct) :=
  s_const c105_15 zcI_0 <|
  s_istore_n c105_16 (Nat.le_of_ble_eq_true rfl) True.intro <|
  kk
theorem b105_17 {x1 : Int32} (k1 : (nI 111) ≤ x1 → RUN X C 105 Q 54 [.ref 33, .int x1] [] (mk (zDm D) ct)) (k2 : ¬ (nI 111) ≤ x1 → RUN X C 105 Q 23 [.ref 33, .int x1] [] (mk (zDm D) ct)) : RUN X C 105 Q 17 [.ref 33, .int x1] [] (mk (zDm D) ct) :=
  s_iload_n c105_17 rfl <|
  s_bipush c105_18 zcB_111 <|
  s_icge c105_20 k1 k2
theorem b105_23 {x1 : Int32} (k1 : (nI 36) ≤ x1 → RUN X C 105 Q 46 [.ref 33, .int x1] [.int x1, .ref 36] (mk (zDm D) ct)) (k2 : ¬ (nI 36) ≤ x1 → RUN X C 105 Q 34 [.ref 33, .int x1] [.int x1, .ref 36] (mk (zDm D) ct)) : RUN X C 105 Q 23 [.ref 33, .int x1] [] (mk (zDm D) ct) :=
  s_aload_n c105_23 rfl <|
  s_getf (ct := ct) c105_24 rfl (by decide) rfl <|
  s_iload_n c105_27 rfl <|
  s_iload_n c105_28 rfl <|
  s_bipush c105_29 zcB_36 <|
  s_icge c105_31 k1 k2
theorem b105_34 {x1 : Int32} {xs1 : Int32} {j42 : Nat} (hx42 : zix ((nI 45) + x1) j42 81) {j47 : Nat} (hx47 : zix xs1 j47 111) (kk : RUN X C 105 Q 17 [.ref 33, .int (x1 + nI 1)] [] (mk (zDm D) (u2 ct 36 j47 (ct 34 j42)))) : RUN X C 105 Q 34 [.ref 33, .int x1] [.int xs1, .ref 36] (mk (zDm D) ct) :=
  s_aload_n c105_34 rfl <|
  s_getf (ct := ct) c105_35 rfl (by decide) rfl <|
  s_bipush c105_38 zcB_45 <|
  s_iload_n c105_40 rfl <|
  s_iadd c105_41 <|
  s_iald (ct := ct) c105_42 rfl hx42 <|
  s_goto c105_43 <|
  s_iast (ct := ct) c105_47 rfl hx47 <|
  s_iinc c105_48 rfl True.intro zcI_1 <|
  s_goto c105_51 <|
  kk
theorem b105_46 {x1 : Int32} {xs1 : Int32} {j47 : Nat} (hx47 : zix xs1 j47 111) (kk : RUN X C 105 Q 17 [.ref 33, .int (x1 + nI 1)] [] (mk (zDm D) (u2 ct 36 j47 (nI 0)))) : RUN X C 105 Q 46 [.ref 33, .int x1] [.int xs1, .ref 36] (mk (zDm D) ct) :=
  s_const c105_46 zcI_0 <|
  s_iast (ct := ct) c105_47 rfl hx47 <|
  s_iinc c105_48 rfl True.intro zcI_1 <|
  s_goto c105_51 <|
  kk
theorem b105_54 {x1 : Int32} (hq : Q none (mk (zDm D) (u2 (u2 (u2 (u2 (u2 ct 36 108 (ct 34 7)) 36 109 (ct 34 8)) 33 5 (nI 0)) 33 7 (nI 0)) 33 11 (nI 0)))) : RUN X C 105 Q 54 [.ref 33, .int x1] [] (mk (zDm D) ct) :=
  s_aload_n c105_54 rfl <|
  s_getf (ct := ct) c105_55 rfl (by decide) rfl <|
  s_bipush c105_58 zcB_108 <|
  s_aload_n c105_60 rfl <|
  s_getf (ct := ct) c105_61 rfl (by decide) rfl <|
  s_bipush c105_64 zcB_7 <|
  s_iald (ct := ct) c105_66 rfl (zix_nI (by decide) (by decide)) <|
  s_iast (ct := ct) c105_67 rfl (zix_nI (by decide) (by decide)) <|
  s_aload_n c105_68 rfl <|
  s_getf (ct := (u2 ct 36 108 (ct 34 7))) c105_69 rfl (by decide) rfl <|
  s_bipush c105_72 zcB_109 <|
  s_aload_n c105_74 rfl <|
  s_getf (ct := (u2 ct 36 108 (ct 34 7))) c105_75 rfl (by decide) rfl <|
  s_bipush c105_78 zcB_8 <|
  s_iald (ct := (u2 ct 36 108 (ct 34 7))) c105_80 rfl (zix_nI (by decide) (by decide)) <|
  s_iast (ct := (u2 ct 36 108 (ct 34 7))) c105_81 rfl (zix_nI (by decide) (by decide)) <|
  s_aload_n c105_82 rfl <|
  s_const c105_83 zcI_0 <|
  s_putf (ct := (u2 (u2 ct 36 108 (ct 34 7)) 36 109 (ct 34 8))) c105_84 rfl (by decide) zint_7_5 xfit_7_5 <|
  s_aload_n c105_87 rfl <|
  s_const c105_88 zcI_0 <|
  s_putf (ct := (u2 (u2 (u2 ct 36 108 (ct 34 7)) 36 109 (ct 34 8)) 33 5 (nI 0))) c105_89 rfl (by decide) zint_7_7 xfit_7_7 <|
  s_aload_n c105_92 rfl <|
  s_const c105_93 zcI_0 <|
  s_putf (ct := (u2 (u2 (u2 (u2 ct 36 108 (ct 34 7)) 36 109 (ct 34 8)) 33 5 (nI 0)) 33 7 (nI 0))) c105_94 rfl (by decide) zint_7_11 xfit_7_11 <|
  s_ret c105_97 rfl hq
-- ('PaintedTownModel', 'copies', '([II[III)V')
theorem b106_0 {a0 n0 : Nat} (ha0 : zsh (zDm D) a0 = (10, n0)) {x1 : Int32} {a2 n2 : Nat} (ha2 : zsh (zDm D) a2 = (10, n2)) {x3 : Int32} {x4 : Int32} {l5 : Value} (kk : RUN X C 106 Q 3 [.ref a0, .int x1, .ref a2, .int x3, .int x4, .int (nI 0)] [] (mk (zDm D) ct)) : RUN X C 106 Q 0 [.ref a0, .int x1, .ref a2, .int x3, .int x4, l5] [] (mk (zDm D) ct) :=
  s_const c106_0 zcI_0 <|
  s_istore c106_1 (Nat.le_of_ble_eq_true rfl) True.intro <|
  kk
theorem b106_3 {a0 n0 : Nat} (ha0 : zsh (zDm D) a0 = (10, n0)) {x1 : Int32} {a2 n2 : Nat} (ha2 : zsh (zDm D) a2 = (10, n2)) {x3 : Int32} {x4 : Int32} {x5 : Int32} (k1 : x4 ≤ x5 → RUN X C 106 Q 28 [.ref a0, .int x1, .ref a2, .int x3, .int x4, .int x5] [] (mk (zDm D) ct)) (k2 : ¬ x4 ≤ x5 → RUN X C 106 Q 10 [.ref a0, .int x1, .ref a2, .int x3, .int x4, .int x5] [] (mk (zDm D) ct)) : RUN X C 106 Q 3 [.ref a0, .int x1, .ref a2, .int x3, .int x4, .int x5] [] (mk (zDm D) ct) :=
  s_iload c106_3 rfl <|
  s_iload c106_5 rfl <|
  s_icge c106_7 k1 k2
theorem b106_10 {a0 n0 : Nat} (ha0 : zsh (zDm D) a0 = (10, n0)) {x1 : Int32} {a2 n2 : Nat} (ha2 : zsh (zDm D) a2 = (10, n2)) {x3 : Int32} {x4 : Int32} {x5 : Int32} {j20 : Nat} (hx20 : zix (x1 + x5) j20 n0) {j21 : Nat} (hx21 : zix (x3 + x5) j21 n2) (kk : RUN X C 106 Q 3 [.ref a0, .int x1, .ref a2, .int x3, .int x4, .int (x5 + nI 1)] [] (mk (zDm D) (u2 ct a2 j21 (ct a0 j20)))) : RUN X C 106 Q 10 [.ref a0, .int x1, .ref a2, .int x3, .int x4, .int x5] [] (mk (zDm D) ct) :=
  s_aload_n c106_10 rfl <|
  s_iload_n c106_11 rfl <|
  s_iload c106_12 rfl <|
  s_iadd c106_14 <|
  s_aload_n c106_15 rfl <|
  s_iload_n c106_16 rfl <|
  s_iload c106_17 rfl <|
  s_iadd c106_19 <|
  s_iald (ct := ct) c106_20 ha0 hx20 <|
  s_iast (ct := ct) c106_21 ha2 hx21 <|
  s_iinc c106_22 rfl True.intro zcI_1 <|
  s_goto c106_25 <|
  kk
theorem b106_28 {a0 n0 : Nat} (ha0 : zsh (zDm D) a0 = (10, n0)) {x1 : Int32} {a2 n2 : Nat} (ha2 : zsh (zDm D) a2 = (10, n2)) {x3 : Int32} {x4 : Int32} {x5 : Int32} (hq : Q none (mk (zDm D) ct)) : RUN X C 106 Q 28 [.ref a0, .int x1, .ref a2, .int x3, .int x4, .int x5] [] (mk (zDm D) ct) :=
  s_ret c106_28 rfl hq
-- ('PaintedTownModel', 'write', '(I)I')
theorem b107_0 {x1 : Int32} {D1 : zD} {ct1 : zM} {v1 : Int32} (he : C 108 [.long (x1.toInt64), .long (lN 32), .long (lN 126)] (mk (zDm D) ct) (some (.int v1)) (mk D1 ct1)) (kk : RUN X C 107 Q 11 [.ref 33, .int x1] [.int v1] (mk D1 ct1)) : RUN X C 107 Q 0 [.ref 33, .int x1] [] (mk (zDm D) ct) :=
  s_iload_n c107_0 rfl <|
  s_i2l c107_1 <|
  s_ldc2 c107_2 <|
  s_ldc2 c107_5 <|
  s_calls (args := [.long (x1.toInt64), .long (lN 32), .long (lN 126)]) (r := []) c107_8 rfl rfl (Nat.le_of_ble_eq_true rfl) he kk
theorem b107_11 {x1 : Int32} {xs0 : Int32} (k1 : xs0 = (nI 0) → RUN X C 107 Q 14 [.ref 33, .int x1] [] (mk (zDm D) ct)) (k2 : ¬ xs0 = (nI 0) → RUN X C 107 Q 16 [.ref 33, .int x1] [] (mk (zDm D) ct)) : RUN X C 107 Q 11 [.ref 33, .int x1] [.int xs0] (mk (zDm D) ct) :=
  s_ifne c107_11 k1 k2
theorem b107_14 {x1 : Int32} (hq : Q (some (.int (-1))) (mk (zDm D) ct)) : RUN X C 107 Q 14 [.ref 33, .int x1] [] (mk (zDm D) ct) :=
  s_const c107_14 zcI_m1 <|
  s_iret c107_15 (xrtI rfl) hq
theorem b107_16 {x1 : Int32} (k1 : (ct 33 9) = (nI 200) → RUN X C 107 Q 26 [.ref 33, .int x1] [] (mk (zDm D) ct)) (k2 : ¬ (ct 33 9) = (nI 200) → RUN X C 107 Q 29 [.ref 33, .int x1] [] (mk (zDm D) ct)) : RUN X C 107 Q 16 [.ref 33, .int x1] [] (mk (zDm D) ct) :=
  s_aload_n c107_16 rfl <|
  s_getf (ct := ct) c107_17 rfl (by decide) rfl <|
  s_sipush c107_20 zcS_200 <|
  s_icne c107_23 k1 k2
theorem b107_26 {x1 : Int32} (hq : Q (some (.int (-3))) (mk (zDm D) ct)) : RUN X C 107 Q 26 [.ref 33, .int x1] [] (mk (zDm D) ct) :=
  s_bipush c107_26 zcB_m3 <|
  s_iret c107_28 (xrtI rfl) hq
theorem b107_29 {x1 : Int32} {j38 : Nat} (hx38 : zix (ct 33 9) j38 200) (hq : Q (some (.int ((ct 33 9) + (nI 1)))) (mk (zDm D) (u2 (u2 ct 40 j38 x1) 33 9 ((ct 33 9) + (nI 1))))) : RUN X C 107 Q 29 [.ref 33, .int x1] [] (mk (zDm D) ct) :=
  s_aload_n c107_29 rfl <|
  s_getf (ct := ct) c107_30 rfl (by decide) rfl <|
  s_aload_n c107_33 rfl <|
  s_getf (ct := ct) c107_34 rfl (by decide) rfl <|
  s_iload_n c107_37 rfl <|
  s_iast (ct := ct) c107_38 rfl hx38 <|
  s_aload_n c107_39 rfl <|
  s_dup c107_40 rfl <|
  s_getf (ct := (u2 ct 40 j38 x1)) c107_41 rfl (by decide) rfl <|
  s_const c107_44 zcI_1 <|
  s_iadd c107_45 <|
  s_putf (ct := (u2 ct 40 j38 x1)) c107_46 rfl (by decide) zint_7_9 xfit_7_9 <|
  s_aload_n c107_49 rfl <|
  s_getf (ct := (u2 (u2 ct 40 j38 x1) 33 9 ((ct 33 9) + (nI 1)))) c107_50 rfl (by decide) rfl <|
  s_iret c107_53 (xrtI rfl) hq
-- ('PaintedTownModel', 'in', '(JJJ)Z')
theorem b108_0 {y0 : Int64} {y2 : Int64} {y4 : Int64} (k1 : (lg_cmp y0 y2) < (nI 0) → RUN X C 108 Q 17 [.long y0, .double 0, .long y2, .double 0, .long y4, .double 0] [] (mk (zDm D) ct)) (k2 : ¬ (lg_cmp y0 y2) < (nI 0) → RUN X C 108 Q 6 [.long y0, .double 0, .long y2, .double 0, .long y4, .double 0] [] (mk (zDm D) ct)) : RUN X C 108 Q 0 [.long y0, .double 0, .long y2, .double 0, .long y4, .double 0] [] (mk (zDm D) ct) :=
  s_lload_n c108_0 rfl <|
  s_lload_n c108_1 rfl <|
  s_lcmp c108_2 <|
  s_iflt c108_3 k1 k2
theorem b108_6 {y0 : Int64} {y2 : Int64} {y4 : Int64} (k1 : (nI 0) < (lg_cmp y0 y4) → RUN X C 108 Q 17 [.long y0, .double 0, .long y2, .double 0, .long y4, .double 0] [] (mk (zDm D) ct)) (k2 : ¬ (nI 0) < (lg_cmp y0 y4) → RUN X C 108 Q 13 [.long y0, .double 0, .long y2, .double 0, .long y4, .double 0] [] (mk (zDm D) ct)) : RUN X C 108 Q 6 [.long y0, .double 0, .long y2, .double 0, .long y4, .double 0] [] (mk (zDm D) ct) :=
  s_lload_n c108_6 rfl <|
  s_lload c108_7 rfl <|
  s_lcmp c108_9 <|
  s_ifgt c108_10 k1 k2
theorem b108_13 {y0 : Int64} {y2 : Int64} {y4 : Int64} (hq : Q (some (.int (nI 1))) (mk (zDm D) ct)) : RUN X C 108 Q 13 [.long y0, .double 0, .long y2, .double 0, .long y4, .double 0] [] (mk (zDm D) ct) :=
  s_const c108_13 zcI_1 <|
  s_goto c108_14 <|
  s_iret c108_18 (xrtZ rfl (Or.inr rfl)) hq
theorem b108_17 {y0 : Int64} {y2 : Int64} {y4 : Int64} (hq : Q (some (.int (nI 0))) (mk (zDm D) ct)) : RUN X C 108 Q 17 [.long y0, .double 0, .long y2, .double 0, .long y4, .double 0] [] (mk (zDm D) ct) :=
  s_const c108_17 zcI_0 <|
  s_iret c108_18 (xrtZ rfl (Or.inl rfl)) hq
-- ('PaintedTownModel', 'wipe', '()I')
theorem b109_0 {l1 : Value} (hq : Q (some (.int (ct 33 9))) (mk (zDm D) (u2 ct 33 9 (nI 0)))) : RUN X C 109 Q 0 [.ref 33, l1] [] (mk (zDm D) ct) :=
  s_aload_n c109_0 rfl <|
  s_getf (ct := ct) c109_1 rfl (by decide) rfl <|
  s_istore_n c109_4 (Nat.le_of_ble_eq_true rfl) True.intro <|
  s_aload_n c109_5 rfl <|
  s_const c109_6 zcI_0 <|
  s_putf (ct := ct) c109_7 rfl (by decide) zint_7_9 xfit_7_9 <|
  s_iload_n c109_10 rfl <|
  s_iret c109_11 (xrtI rfl) hq
-- ('PaintedTownModel', 'fault', '()I')
theorem b110_0 {l1 : Value} {D1 : zD} {ct1 : zM} (he : C 103 [.ref 33] (mk (zDm D) ct) none (mk D1 ct1)) (kk : RUN X C 110 Q 4 [.ref 33, l1] [] (mk D1 ct1)) : RUN X C 110 Q 0 [.ref 33, l1] [] (mk (zDm D) ct) :=
  s_aload_n c110_0 rfl <|
  s_callv (args := []) (r := []) c110_1 rfl rfl (Nat.le_of_ble_eq_true rfl) rfl ⟨rfl, by decide⟩ he kk
theorem b110_4 {l1 : Value} (kk : RUN X C 110 Q 9 [.ref 33, l1] [] (mk (zDm D) (u2 ct 33 13 (nI 0)))) : RUN X C 110 Q 4 [.ref 33, l1] [] (mk (zDm D) ct) :=
  s_aload_n c110_4 rfl <|
  s_const c110_5 zcI_0 <|
  s_putf (ct := ct) c110_6 rfl (by decide) zint_7_13 xfit_7_13 <|
  kk
theorem b110_9 {l1 : Value} (k1 : (ct 33 9) ≤ (ct 33 13) → RUN X C 110 Q 37 [.ref 33, l1] [] (mk (zDm D) ct)) (k2 : ¬ (ct 33 9) ≤ (ct 33 13) → RUN X C 110 Q 20 [.ref 33, l1] [] (mk (zDm D) ct)) : RUN X C 110 Q 9 [.ref 33, l1] [] (mk (zDm D) ct) :=
  s_aload_n c110_9 rfl <|
  s_getf (ct := ct) c110_10 rfl (by decide) rfl <|
  s_aload_n c110_13 rfl <|
  s_getf (ct := ct) c110_14 rfl (by decide) rfl <|
  s_icge c110_17 k1 k2
theorem b110_20 {l1 : Value} {D1 : zD} {ct1 : zM} {v1 : Int32} (he : C 111 [.ref 33] (mk (zDm D) ct) (some (.int v1)) (mk D1 ct1)) (kk : RUN X C 110 Q 29 [.ref 33, .int (ct 33 13)] [.int v1] (mk D1 ct1)) : RUN X C 110 Q 20 [.ref 33, l1] [] (mk (zDm D) ct) :=
  s_aload_n c110_20 rfl <|
  s_getf (ct := ct) c110_21 rfl (by decide) rfl <|
  s_istore_n c110_24 (Nat.le_of_ble_eq_true rfl) True.intro <|
  s_aload_n c110_25 rfl <|
  s_callv (args := []) (r := []) c110_26 rfl rfl (Nat.le_of_ble_eq_true rfl) rfl ⟨rfl, by decide⟩ he kk
theorem b110_29 {x1 : Int32} {xs0 : Int32} (k1 : xs0 = (nI 0) → RUN X C 110 Q 32 [.ref 33, .int x1] [] (mk (zDm D) ct)) (k2 : ¬ xs0 = (nI 0) → RUN X C 110 Q 34 [.ref 33, .int x1] [] (mk (zDm D) ct)) : RUN X C 110 Q 29 [.ref 33, .int x1] [.int xs0] (mk (zDm D) ct) :=
  s_ifne c110_29 k1 k2
theorem b110_32 {x1 : Int32} (hq : Q (some (.int x1)) (mk (zDm D) ct)) : RUN X C 110 Q 32 [.ref 33, .int x1] [] (mk (zDm D) ct) :=
  s_iload_n c110_32 rfl <|
  s_iret c110_33 (xrtI rfl) hq
theorem b110_34 {x1 : Int32} (kk : RUN X C 110 Q 9 [.ref 33, .int x1] [] (mk (zDm D) ct)) : RUN X C 110 Q 34 [.ref 33, .int x1] [] (mk (zDm D) ct) :=
  s_goto c110_34 <|
  kk
theorem b110_37 {l1 : Value} (hq : Q (some (.int (-4))) (mk (zDm D) ct)) : RUN X C 110 Q 37 [.ref 33, l1] [] (mk (zDm D) ct) :=
  s_bipush c110_37 zcB_m4 <|
  s_iret c110_39 (xrtI rfl) hq
-- ('PaintedTownModel', 'takesItem', '()Z')
theorem b111_0 {l1 : Value} {D1 : zD} {ct1 : zM} {v1 : Int32} (he : C 112 [.ref 33] (mk (zDm D) ct) (some (.int v1)) (mk D1 ct1)) (kk : RUN X C 111 Q 4 [.ref 33, l1] [.int v1] (mk D1 ct1)) : RUN X C 111 Q 0 [.ref 33, l1] [] (mk (zDm D) ct) :=
  s_aload_n c111_0 rfl <|
  s_callv (args := []) (r := []) c111_1 rfl rfl (Nat.le_of_ble_eq_true rfl) rfl ⟨rfl, by decide⟩ he kk
theorem b111_4 {l1 : Value} {xs0 : Int32} (k1 : xs0 = (nI 118) → RUN X C 111 Q 21 [.ref 33, .int xs0] [] (mk (zDm D) (u2 ct 33 13 ((ct 33 13) + (nI 1))))) (k2 : ¬ xs0 = (nI 118) → RUN X C 111 Q 26 [.ref 33, .int xs0] [] (mk (zDm D) (u2 ct 33 13 ((ct 33 13) + (nI 1))))) : RUN X C 111 Q 4 [.ref 33, l1] [.int xs0] (mk (zDm D) ct) :=
  s_istore_n c111_4 (Nat.le_of_ble_eq_true rfl) True.intro <|
  s_aload_n c111_5 rfl <|
  s_dup c111_6 rfl <|
  s_getf (ct := ct) c111_7 rfl (by decide) rfl <|
  s_const c111_10 zcI_1 <|
  s_iadd c111_11 <|
  s_putf (ct := ct) c111_12 rfl (by decide) zint_7_13 xfit_7_13 <|
  s_iload_n c111_15 rfl <|
  s_bipush c111_16 zcB_118 <|
  s_icne c111_18 k1 k2
theorem b111_21 {x1 : Int32} {D1 : zD} {ct1 : zM} {v1 : Int32} (he : C 113 [.ref 33] (mk (zDm D) ct) (some (.int v1)) (mk D1 ct1)) (kk : RUN X C 111 Q 25 [.ref 33, .int x1] [.int v1] (mk D1 ct1)) : RUN X C 111 Q 21 [.ref 33, .int x1] [] (mk (zDm D) ct) :=
  s_aload_n c111_21 rfl <|
  s_callv (args := []) (r := []) c111_22 rfl rfl (Nat.le_of_ble_eq_true rfl) rfl ⟨rfl, by decide⟩ he kk
theorem b111_25 {x1 : Int32} {xs0 : Int32} (hq : Q (some (.int xs0)) (mk (zDm D) ct)) (hz25 : xs0 = nI 0 ∨ xs0 = nI 1) : RUN X C 111 Q 25 [.ref 33, .int x1] [.int xs0] (mk (zDm D) ct) :=
  s_iret c111_25 (xrtZ rfl hz25) hq
theorem b111_26 {x1 : Int32} (kk : xsw [156, 136, 156, 151, 156, 130, 156, 156, 146, 156, 156, 156, 124, 156, 156, 156, 156, 156, 156, 141] (x1.toInt - 101) fun t => RUN X C 111 Q t [.ref 33, .int x1] [] (mk (zDm D) (u2 ct 33 12 (nI 0)))) : RUN X C 111 Q 26 [.ref 33, .int x1] [] (mk (zDm D) ct) :=
  s_aload_n c111_26 rfl <|
  s_const c111_27 zcI_0 <|
  s_putf (ct := ct) c111_28 rfl (by decide) zint_7_12 (xfit_7_12 (Or.inl rfl)) <|
  s_iload_n c111_31 rfl <|
  s_switch c111_32 kk
theorem b111_124 {x1 : Int32} {D1 : zD} {ct1 : zM} {v1 : Int32} (he : C 115 [.ref 33, .int (nI 1)] (mk (zDm D) ct) (some (.int v1)) (mk D1 ct1)) (kk : RUN X C 111 Q 129 [.ref 33, .int x1] [.int v1] (mk D1 ct1)) : RUN X C 111 Q 124 [.ref 33, .int x1] [] (mk (zDm D) ct) :=
  s_aload_n c111_124 rfl <|
  s_const c111_125 zcI_1 <|
  s_callv (args := [.int (nI 1)]) (r := []) c111_126 rfl rfl (Nat.le_of_ble_eq_true rfl) rfl ⟨rfl, by decide⟩ he kk
theorem b111_129 {x1 : Int32} {xs0 : Int32} (hq : Q (some (.int xs0)) (mk (zDm D) ct)) (hz129 : xs0 = nI 0 ∨ xs0 = nI 1) : RUN X C 111 Q 129 [.ref 33, .int x1] [.int xs0] (mk (zDm D) ct) :=
  s_iret c111_129 (xrtZ rfl hz129) hq
theorem b111_130 {x1 : Int32} {D1 : zD} {ct1 : zM} {v1 : Int32} (he : C 115 [.ref 33, .int (nI 0)] (mk (zDm D) ct) (some (.int v1)) (mk D1 ct1)) (kk : RUN X C 111 Q 135 [.ref 33, .int x1] [.int v1] (mk D1 ct1)) : RUN X C 111 Q 130 [.ref 33, .int x1] [] (mk (zDm D) ct) :=
  s_aload_n c111_130 rfl <|
  s_const c111_131 zcI_0 <|
  s_callv (args := [.int (nI 0)]) (r := []) c111_132 rfl rfl (Nat.le_of_ble_eq_true rfl) rfl ⟨rfl, by decide⟩ he kk
theorem b111_135 {x1 : Int32} {xs0 : Int32} (hq : Q (some (.int xs0)) (mk (zDm D) ct)) (hz135 : xs0 = nI 0 ∨ xs0 = nI 1) : RUN X C 111 Q 135 [.ref 33, .int x1] [.int xs0] (mk (zDm D) ct) :=
  s_iret c111_135 (xrtZ rfl hz135) hq
theorem b111_136 {x1 : Int32} {D1 : zD} {ct1 : zM} {v1 : Int32} (he : C 117 [.ref 33] (mk (zDm D) ct) (some (.int v1)) (mk D1 ct1)) (kk : RUN X C 111 Q 140 [.ref 33, .int x1] [.int v1] (mk D1 ct1)) : RUN X C 111 Q 136 [.ref 33, .int x1] [] (mk (zDm D) ct) :=
  s_aload_n c111_136 rfl <|
  s_callv (args := []) (r := []) c111_137 rfl rfl (Nat.le_of_ble_eq_true rfl) rfl ⟨rfl, by decide⟩ he kk
theorem b111_140 {x1 : Int32} {xs0 : Int32} (hq : Q (some (.int xs0)) (mk (zDm D) ct)) (hz140 : xs0 = nI 0 ∨ xs0 = nI 1) : RUN X C 111 Q 140 [.ref 33, .int x1] [.int xs0] (mk (zDm D) ct) :=
  s_iret c111_140 (xrtZ rfl hz140) hq
theorem b111_141 {x1 : Int32} {D1 : zD} {ct1 : zM} {v1 : Int32} (he : C 118 [.ref 33] (mk (zDm D) ct) (some (.int v1)) (mk D1 ct1)) (kk : RUN X C 111 Q 145 [.ref 33, .int x1] [.int v1] (mk D1 ct1)) : RUN X C 111 Q 141 [.ref 33, .int x1] [] (mk (zDm D) ct) :=
  s_aload_n c111_141 rfl <|
  s_callv (args := []) (r := []) c111_142 rfl rfl (Nat.le_of_ble_eq_true rfl) rfl ⟨rfl, by decide⟩ he kk
theorem b111_145 {x1 : Int32} {xs0 : Int32} (hq : Q (some (.int xs0)) (mk (zDm D) ct)) (hz145 : xs0 = nI 0 ∨ xs0 = nI 1) : RUN X C 111 Q 145 [.ref 33, .int x1] [.int xs0] (mk (zDm D) ct) :=
  s_iret c111_145 (xrtZ rfl hz145) hq
theorem b111_146 {x1 : Int32} {D1 : zD} {ct1 : zM} {v1 : Int32} (he : C 119 [.ref 33] (mk (zDm D) ct) (some (.int v1)) (mk D1 ct1)) (kk : RUN X C 111 Q 150 [.ref 33, .int x1] [.int v1] (mk D1 ct1)) : RUN X C 111 Q 146 [.ref 33, .int x1] [] (mk (zDm D) ct) :=
  s_aload_n c111_146 rfl <|
  s_callv (args := []) (r := []) c111_147 rfl rfl (Nat.le_of_ble_eq_true rfl) rfl ⟨rfl, by decide⟩ he kk
theorem b111_150 {x1 : Int32} {xs0 : Int32} (hq : Q (some (.int xs0)) (mk (zDm D) ct)) (hz150 : xs0 = nI 0 ∨ xs0 = nI 1) : RUN X C 111 Q 150 [.ref 33, .int x1] [.int xs0] (mk (zDm D) ct) :=
  s_iret c111_150 (xrtZ rfl hz150) hq
theorem b111_151 {x1 : Int32} {D1 : zD} {ct1 : zM} {v1 : Int32} (he : C 120 [.ref 33] (mk (zDm D) ct) (some (.int v1)) (mk D1 ct1)) (kk : RUN X C 111 Q 155 [.ref 33, .int x1] [.int v1] (mk D1 ct1)) : RUN X C 111 Q 151 [.ref 33, .int x1] [] (mk (zDm D) ct) :=
  s_aload_n c111_151 rfl <|
  s_callv (args := []) (r := []) c111_152 rfl rfl (Nat.le_of_ble_eq_true rfl) rfl ⟨rfl, by decide⟩ he kk
theorem b111_155 {x1 : Int32} {xs0 : Int32} (hq : Q (some (.int xs0)) (mk (zDm D) ct)) (hz155 : xs0 = nI 0 ∨ xs0 = nI 1) : RUN X C 111 Q 155 [.ref 33, .int x1] [.int xs0] (mk (zDm D) ct) :=
  s_iret c111_155 (xrtZ rfl hz155) hq
theorem b111_156 {x1 : Int32} (hq : Q (some (.int (nI 0))) (mk (zDm D) ct)) : RUN X C 111 Q 156 [.ref 33, .int x1] [] (mk (zDm D) ct) :=
  s_const c111_156 zcI_0 <|
  s_iret c111_157 (xrtZ rfl (Or.inl rfl)) hq
-- ('PaintedTownModel', 'here', '()I')
theorem b112_0 (k1 : (ct 33 9) ≤ (ct 33 13) → RUN X C 112 Q 23 [.ref 33] [] (mk (zDm D) ct)) (k2 : ¬ (ct 33 9) ≤ (ct 33 13) → RUN X C 112 Q 11 [.ref 33] [] (mk (zDm D) ct)) : RUN X C 112 Q 0 [.ref 33] [] (mk (zDm D) ct) :=
  s_aload_n c112_0 rfl <|
  s_getf (ct := ct) c112_1 rfl (by decide) rfl <|
  s_aload_n c112_4 rfl <|
  s_getf (ct := ct) c112_5 rfl (by decide) rfl <|
  s_icge c112_8 k1 k2
theorem b112_11 {j19 : Nat} (hx19 : zix (ct 33 13) j19 200) (hq : Q (some (.int (ct 40 j19))) (mk (zDm D) ct)) : RUN X C 112 Q 11 [.ref 33] [] (mk (zDm D) ct) :=
  s_aload_n c112_11 rfl <|
  s_getf (ct := ct) c112_12 rfl (by decide) rfl <|
  s_aload_n c112_15 rfl <|
  s_getf (ct := ct) c112_16 rfl (by decide) rfl <|
  s_iald (ct := ct) c112_19 rfl hx19 <|
  s_goto c112_20 <|
  s_iret c112_24 (xrtI rfl) hq
theorem b112_23 (hq : Q (some (.int (-1))) (mk (zDm D) ct)) : RUN X C 112 Q 23 [.ref 33] [] (mk (zDm D) ct) :=
  s_const c112_23 zcI_m1 <|
  s_iret c112_24 (xrtI rfl) hq
-- ('PaintedTownModel', 'takesView', '()Z')
theorem b113_0 (k1 : (ct 33 12) = (nI 0) → RUN X C 113 Q 53 [.ref 33] [] (mk (zDm D) ct)) (k2 : ¬ (ct 33 12) = (nI 0) → RUN X C 113 Q 7 [.ref 33] [] (mk (zDm D) ct)) : RUN X C 113 Q 0 [.ref 33] [] (mk (zDm D) ct) :=
  s_aload_n c113_0 rfl <|
  s_getf (ct := ct) c113_1 rfl (by decide) rfl <|
  s_ifeq c113_4 k1 k2
theorem b113_7 {D1 : zD} {ct1 : zM} {v1 : Int32} (he : C 114 [.ref 33, .int (nI 2)] (mk (zDm D) ct) (some (.int v1)) (mk D1 ct1)) (kk : RUN X C 113 Q 12 [.ref 33] [.int v1] (mk D1 ct1)) : RUN X C 113 Q 7 [.ref 33] [] (mk (zDm D) ct) :=
  s_aload_n c113_7 rfl <|
  s_const c113_8 zcI_2 <|
  s_callv (args := [.int (nI 2)]) (r := []) c113_9 rfl rfl (Nat.le_of_ble_eq_true rfl) rfl ⟨rfl, by decide⟩ he kk
theorem b113_12 {xs0 : Int32} (k1 : xs0 = (nI 0) → RUN X C 113 Q 53 [.ref 33] [] (mk (zDm D) ct)) (k2 : ¬ xs0 = (nI 0) → RUN X C 113 Q 15 [.ref 33] [] (mk (zDm D) ct)) : RUN X C 113 Q 12 [.ref 33] [.int xs0] (mk (zDm D) ct) :=
  s_ifeq c113_12 k1 k2
theorem b113_15 {D1 : zD} {ct1 : zM} {v1 : Int32} (he : C 108 [.long ((ct 42 0).toInt64), .long (lN 2), .long (lN 6)] (mk (zDm D) ct) (some (.int v1)) (mk D1 ct1)) (kk : RUN X C 113 Q 31 [.ref 33] [.int v1] (mk D1 ct1)) : RUN X C 113 Q 15 [.ref 33] [] (mk (zDm D) ct) :=
  s_aload_n c113_15 rfl <|
  s_getf (ct := ct) c113_16 rfl (by decide) rfl <|
  s_const c113_19 zcI_0 <|
  s_iald (ct := ct) c113_20 rfl (zix_nI (by decide) (by decide)) <|
  s_i2l c113_21 <|
  s_ldc2 c113_22 <|
  s_ldc2 c113_25 <|
  s_calls (args := [.long ((ct 42 0).toInt64), .long (lN 2), .long (lN 6)]) (r := []) c113_28 rfl rfl (Nat.le_of_ble_eq_true rfl) he kk
theorem b113_31 {xs0 : Int32} (k1 : xs0 = (nI 0) → RUN X C 113 Q 53 [.ref 33] [] (mk (zDm D) ct)) (k2 : ¬ xs0 = (nI 0) → RUN X C 113 Q 34 [.ref 33] [] (mk (zDm D) ct)) : RUN X C 113 Q 31 [.ref 33] [.int xs0] (mk (zDm D) ct) :=
  s_ifeq c113_31 k1 k2
theorem b113_34 {D1 : zD} {ct1 : zM} {v1 : Int32} (he : C 108 [.long ((ct 42 1).toInt64), .long (lN 2), .long (lN 6)] (mk (zDm D) ct) (some (.int v1)) (mk D1 ct1)) (kk : RUN X C 113 Q 50 [.ref 33] [.int v1] (mk D1 ct1)) : RUN X C 113 Q 34 [.ref 33] [] (mk (zDm D) ct) :=
  s_aload_n c113_34 rfl <|
  s_getf (ct := ct) c113_35 rfl (by decide) rfl <|
  s_const c113_38 zcI_1 <|
  s_iald (ct := ct) c113_39 rfl (zix_nI (by decide) (by decide)) <|
  s_i2l c113_40 <|
  s_ldc2 c113_41 <|
  s_ldc2 c113_44 <|
  s_calls (args := [.long ((ct 42 1).toInt64), .long (lN 2), .long (lN 6)]) (r := []) c113_47 rfl rfl (Nat.le_of_ble_eq_true rfl) he kk
theorem b113_50 {xs0 : Int32} (k1 : xs0 = (nI 0) → RUN X C 113 Q 53 [.ref 33] [] (mk (zDm D) ct)) (k2 : ¬ xs0 = (nI 0) → RUN X C 113 Q 55 [.ref 33] [] (mk (zDm D) ct)) : RUN X C 113 Q 50 [.ref 33] [.int xs0] (mk (zDm D) ct) :=
  s_ifne c113_50 k1 k2
theorem b113_53 (hq : Q (some (.int (nI 0))) (mk (zDm D) ct)) : RUN X C 113 Q 53 [.ref 33] [] (mk (zDm D) ct) :=
  s_const c113_53 zcI_0 <|
  s_iret c113_54 (xrtZ rfl (Or.inl rfl)) hq
theorem b113_55 (hq : Q (some (.int (nI 1))) (mk (zDm D) (u2 (u2 ct 35 0 (ct 42 0)) 35 1 (ct 42 1)))) : RUN X C 113 Q 55 [.ref 33] [] (mk (zDm D) ct) :=
  s_aload_n c113_55 rfl <|
  s_getf (ct := ct) c113_56 rfl (by decide) rfl <|
  s_const c113_59 zcI_0 <|
  s_aload_n c113_60 rfl <|
  s_getf (ct := ct) c113_61 rfl (by decide) rfl <|
  s_const c113_64 zcI_0 <|
  s_iald (ct := ct) c113_65 rfl (zix_nI (by decide) (by decide)) <|
  s_iast (ct := ct) c113_66 rfl (zix_nI (by decide) (by decide)) <|
  s_aload_n c113_67 rfl <|
  s_getf (ct := (u2 ct 35 0 (ct 42 0))) c113_68 rfl (by decide) rfl <|
  s_const c113_71 zcI_1 <|
  s_aload_n c113_72 rfl <|
  s_getf (ct := (u2 ct 35 0 (ct 42 0))) c113_73 rfl (by decide) rfl <|
  s_const c113_76 zcI_1 <|
  s_iald (ct := (u2 ct 35 0 (ct 42 0))) c113_77 rfl (zix_nI (by decide) (by decide)) <|
  s_iast (ct := (u2 ct 35 0 (ct 42 0))) c113_78 rfl (zix_nI (by decide) (by decide)) <|
  s_const c113_79 zcI_1 <|
  s_iret c113_80 (xrtZ rfl (Or.inr rfl)) hq
-- ('PaintedTownModel', 'takes', '(I)Z')
theorem b114_0 {x1 : Int32} {l2 : Value} {l3 : Value} {l4 : Value} (kk : RUN X C 114 Q 2 [.ref 33, .int x1, .int (nI 0), l3, l4] [] (mk (zDm D) ct)) : RUN X C 114 Q 0 [.ref 33, .int x1, l2, l3, l4] [] (mk (zDm D) ct) :=
  s_const c114_0 zcI_0 <|
  s_istore_n c114_1 (Nat.le_of_ble_eq_true rfl) True.intro <|
  kk
theorem b114_2 {x1 : Int32} {x2 : Int32} {l3 : Value} {l4 : Value} (k1 : x1 ≤ x2 → RUN X C 114 Q 127 [.ref 33, .int x1, .int x2, l3, l4] [] (mk (zDm D) ct)) (k2 : ¬ x1 ≤ x2 → RUN X C 114 Q 7 [.ref 33, .int x1, .int x2, l3, l4] [] (mk (zDm D) ct)) : RUN X C 114 Q 2 [.ref 33, .int x1, .int x2, l3, l4] [] (mk (zDm D) ct) :=
  s_iload_n c114_2 rfl <|
  s_iload_n c114_3 rfl <|
  s_icge c114_4 k1 k2
theorem b114_7 {x1 : Int32} {x2 : Int32} {l3 : Value} {l4 : Value} (kk : RUN X C 114 Q 12 [.ref 33, .int x1, .int x2, .int (nI 0), .int (nI 0)] [] (mk (zDm D) ct)) : RUN X C 114 Q 7 [.ref 33, .int x1, .int x2, l3, l4] [] (mk (zDm D) ct) :=
  s_const c114_7 zcI_0 <|
  s_istore_n c114_8 (Nat.le_of_ble_eq_true rfl) True.intro <|
  s_const c114_9 zcI_0 <|
  s_istore c114_10 (Nat.le_of_ble_eq_true rfl) True.intro <|
  kk
theorem b114_12 {x1 : Int32} {x2 : Int32} {x3 : Int32} {x4 : Int32} {D1 : zD} {ct1 : zM} {v1 : Int32} (he : C 112 [.ref 33] (mk (zDm D) ct) (some (.int v1)) (mk D1 ct1)) (kk : RUN X C 114 Q 16 [.ref 33, .int x1, .int x2, .int x3, .int x4] [.int v1] (mk D1 ct1)) : RUN X C 114 Q 12 [.ref 33, .int x1, .int x2, .int x3, .int x4] [] (mk (zDm D) ct) :=
  s_aload_n c114_12 rfl <|
  s_callv (args := []) (r := []) c114_13 rfl rfl (Nat.le_of_ble_eq_true rfl) rfl ⟨rfl, by decide⟩ he kk
theorem b114_16 {x1 : Int32} {x2 : Int32} {x3 : Int32} {x4 : Int32} {xs0 : Int32} {D1 : zD} {ct1 : zM} {v1 : Int32} (he : C 108 [.long (xs0.toInt64), .long (lN 48), .long (lN 57)] (mk (zDm D) ct) (some (.int v1)) (mk D1 ct1)) (kk : RUN X C 114 Q 26 [.ref 33, .int x1, .int x2, .int x3, .int x4] [.int v1] (mk D1 ct1)) : RUN X C 114 Q 16 [.ref 33, .int x1, .int x2, .int x3, .int x4] [.int xs0] (mk (zDm D) ct) :=
  s_i2l c114_16 <|
  s_ldc2 c114_17 <|
  s_ldc2 c114_20 <|
  s_calls (args := [.long (xs0.toInt64), .long (lN 48), .long (lN 57)]) (r := []) c114_23 rfl rfl (Nat.le_of_ble_eq_true rfl) he kk
theorem b114_26 {x1 : Int32} {x2 : Int32} {x3 : Int32} {x4 : Int32} {xs0 : Int32} (k1 : xs0 = (nI 0) → RUN X C 114 Q 68 [.ref 33, .int x1, .int x2, .int x3, .int x4] [] (mk (zDm D) ct)) (k2 : ¬ xs0 = (nI 0) → RUN X C 114 Q 29 [.ref 33, .int x1, .int x2, .int x3, .int x4] [] (mk (zDm D) ct)) : RUN X C 114 Q 26 [.ref 33, .int x1, .int x2, .int x3, .int x4] [.int xs0] (mk (zDm D) ct) :=
  s_ifeq c114_26 k1 k2
theorem b114_29 {x1 : Int32} {x2 : Int32} {x3 : Int32} {x4 : Int32} (k1 : (nI 2) ≤ x4 → RUN X C 114 Q 50 [.ref 33, .int x1, .int x2, .int x3, .int x4] [] (mk (zDm D) ct)) (k2 : ¬ (nI 2) ≤ x4 → RUN X C 114 Q 35 [.ref 33, .int x1, .int x2, .int x3, .int x4] [] (mk (zDm D) ct)) : RUN X C 114 Q 29 [.ref 33, .int x1, .int x2, .int x3, .int x4] [] (mk (zDm D) ct) :=
  s_iload c114_29 rfl <|
  s_const c114_31 zcI_2 <|
  s_icge c114_32 k1 k2
theorem b114_35 {x1 : Int32} {x2 : Int32} {x3 : Int32} {x4 : Int32} {D1 : zD} {ct1 : zM} {v1 : Int32} (he : C 112 [.ref 33] (mk (zDm D) ct) (some (.int v1)) (mk D1 ct1)) (kk : RUN X C 114 Q 43 [.ref 33, .int x1, .int x2, .int x3, .int x4] [.int v1, .int ((nI 10) * x3)] (mk D1 ct1)) : RUN X C 114 Q 35 [.ref 33, .int x1, .int x2, .int x3, .int x4] [] (mk (zDm D) ct) :=
  s_bipush c114_35 zcB_10 <|
  s_iload_n c114_37 rfl <|
  s_imul c114_38 <|
  s_aload_n c114_39 rfl <|
  s_callv (args := []) (r := [.int ((nI 10) * x3)]) c114_40 rfl rfl (Nat.le_of_ble_eq_true rfl) rfl ⟨rfl, by decide⟩ he kk
theorem b114_43 {x1 : Int32} {x2 : Int32} {x3 : Int32} {x4 : Int32} {xs0 : Int32} {xs1 : Int32} (kk : RUN X C 114 Q 12 [.ref 33, .int x1, .int x2, .int ((xs0 + xs1) - (nI 48)), .int (x4 + nI 1)] [] (mk (zDm D) (u2 ct 33 13 ((ct 33 13) + (nI 1))))) : RUN X C 114 Q 43 [.ref 33, .int x1, .int x2, .int x3, .int x4] [.int xs1, .int xs0] (mk (zDm D) ct) :=
  s_iadd c114_43 <|
  s_bipush c114_44 zcB_48 <|
  s_isub c114_46 <|
  s_goto c114_47 <|
  s_istore_n c114_51 (Nat.le_of_ble_eq_true rfl) True.intro <|
  s_iinc c114_52 rfl True.intro zcI_1 <|
  s_aload_n c114_55 rfl <|
  s_dup c114_56 rfl <|
  s_getf (ct := ct) c114_57 rfl (by decide) rfl <|
  s_const c114_60 zcI_1 <|
  s_iadd c114_61 <|
  s_putf (ct := ct) c114_62 rfl (by decide) zint_7_13 xfit_7_13 <|
  s_goto c114_65 <|
  kk
theorem b114_50 {x1 : Int32} {x2 : Int32} {x3 : Int32} {x4 : Int32} (kk : RUN X C 114 Q 12 [.ref 33, .int x1, .int x2, .int x3, .int (x4 + nI 1)] [] (mk (zDm D) (u2 ct 33 13 ((ct 33 13) + (nI 1))))) : RUN X C 114 Q 50 [.ref 33, .int x1, .int x2, .int x3, .int x4] [] (mk (zDm D) ct) :=
  s_iload_n c114_50 rfl <|
  s_istore_n c114_51 (Nat.le_of_ble_eq_true rfl) True.intro <|
  s_iinc c114_52 rfl True.intro zcI_1 <|
  s_aload_n c114_55 rfl <|
  s_dup c114_56 rfl <|
  s_getf (ct := ct) c114_57 rfl (by decide) rfl <|
  s_const c114_60 zcI_1 <|
  s_iadd c114_61 <|
  s_putf (ct := ct) c114_62 rfl (by decide) zint_7_13 xfit_7_13 <|
  s_goto c114_65 <|
  kk
theorem b114_68 {x1 : Int32} {x2 : Int32} {x3 : Int32} {x4 : Int32} {D1 : zD} {ct1 : zM} {v1 : Int32} (he : C 108 [.long (x4.toInt64), .long (lN 1), .long (lN 2)] (mk (zDm D) ct) (some (.int v1)) (mk D1 ct1)) (kk : RUN X C 114 Q 78 [.ref 33, .int x1, .int x2, .int x3, .int x4] [.int v1] (mk D1 ct1)) : RUN X C 114 Q 68 [.ref 33, .int x1, .int x2, .int x3, .int x4] [] (mk (zDm D) ct) :=
  s_iload c114_68 rfl <|
  s_i2l c114_70 <|
  s_lconst c114_71 <|
  s_ldc2 c114_72 <|
  s_calls (args := [.long (x4.toInt64), .long (lN 1), .long (lN 2)]) (r := []) c114_75 rfl rfl (Nat.le_of_ble_eq_true rfl) he kk
theorem b114_78 {x1 : Int32} {x2 : Int32} {x3 : Int32} {x4 : Int32} {xs0 : Int32} (k1 : xs0 = (nI 0) → RUN X C 114 Q 102 [.ref 33, .int x1, .int x2, .int x3, .int x4] [] (mk (zDm D) ct)) (k2 : ¬ xs0 = (nI 0) → RUN X C 114 Q 81 [.ref 33, .int x1, .int x2, .int x3, .int x4] [] (mk (zDm D) ct)) : RUN X C 114 Q 78 [.ref 33, .int x1, .int x2, .int x3, .int x4] [.int xs0] (mk (zDm D) ct) :=
  s_ifeq c114_78 k1 k2
theorem b114_81 {x1 : Int32} {x2 : Int32} {x3 : Int32} {x4 : Int32} {D1 : zD} {ct1 : zM} {v1 : Int32} (he : C 112 [.ref 33] (mk (zDm D) ct) (some (.int v1)) (mk D1 ct1)) (kk : RUN X C 114 Q 85 [.ref 33, .int x1, .int x2, .int x3, .int x4] [.int v1] (mk D1 ct1)) : RUN X C 114 Q 81 [.ref 33, .int x1, .int x2, .int x3, .int x4] [] (mk (zDm D) ct) :=
  s_aload_n c114_81 rfl <|
  s_callv (args := []) (r := []) c114_82 rfl rfl (Nat.le_of_ble_eq_true rfl) rfl ⟨rfl, by decide⟩ he kk
theorem b114_85 {x1 : Int32} {x2 : Int32} {x3 : Int32} {x4 : Int32} {xs0 : Int32} (k1 : (x1 - (nI 1)) ≤ x2 → RUN X C 114 Q 97 [.ref 33, .int x1, .int x2, .int x3, .int x4] [.int xs0] (mk (zDm D) ct)) (k2 : ¬ (x1 - (nI 1)) ≤ x2 → RUN X C 114 Q 92 [.ref 33, .int x1, .int x2, .int x3, .int x4] [.int xs0] (mk (zDm D) ct)) : RUN X C 114 Q 85 [.ref 33, .int x1, .int x2, .int x3, .int x4] [.int xs0] (mk (zDm D) ct) :=
  s_iload_n c114_85 rfl <|
  s_iload_n c114_86 rfl <|
  s_const c114_87 zcI_1 <|
  s_isub c114_88 <|
  s_icge c114_89 k1 k2
theorem b114_92 {x1 : Int32} {x2 : Int32} {x3 : Int32} {x4 : Int32} {xs0 : Int32} (k1 : xs0 = (nI 44) → RUN X C 114 Q 104 [.ref 33, .int x1, .int x2, .int x3, .int x4] [] (mk (zDm D) ct)) (k2 : ¬ xs0 = (nI 44) → RUN X C 114 Q 102 [.ref 33, .int x1, .int x2, .int x3, .int x4] [] (mk (zDm D) ct)) : RUN X C 114 Q 92 [.ref 33, .int x1, .int x2, .int x3, .int x4] [.int xs0] (mk (zDm D) ct) :=
  s_bipush c114_92 zcB_44 <|
  s_goto c114_94 <|
  s_iceq c114_99 k1 k2
theorem b114_97 {x1 : Int32} {x2 : Int32} {x3 : Int32} {x4 : Int32} {xs0 : Int32} (k1 : xs0 = (nI 59) → RUN X C 114 Q 104 [.ref 33, .int x1, .int x2, .int x3, .int x4] [] (mk (zDm D) ct)) (k2 : ¬ xs0 = (nI 59) → RUN X C 114 Q 102 [.ref 33, .int x1, .int x2, .int x3, .int x4] [] (mk (zDm D) ct)) : RUN X C 114 Q 97 [.ref 33, .int x1, .int x2, .int x3, .int x4] [.int xs0] (mk (zDm D) ct) :=
  s_bipush c114_97 zcB_59 <|
  s_iceq c114_99 k1 k2
theorem b114_102 {x1 : Int32} {x2 : Int32} {x3 : Int32} {x4 : Int32} (hq : Q (some (.int (nI 0))) (mk (zDm D) ct)) : RUN X C 114 Q 102 [.ref 33, .int x1, .int x2, .int x3, .int x4] [] (mk (zDm D) ct) :=
  s_const c114_102 zcI_0 <|
  s_iret c114_103 (xrtZ rfl (Or.inl rfl)) hq
theorem b114_104 {x1 : Int32} {x2 : Int32} {x3 : Int32} {x4 : Int32} {j110 : Nat} (hx110 : zix x2 j110 4) (kk : RUN X C 114 Q 2 [.ref 33, .int x1, .int (x2 + nI 1), .int x3, .int x4] [] (mk (zDm D) (u2 (u2 ct 42 j110 x3) 33 13 ((ct 33 13) + (nI 1))))) : RUN X C 114 Q 104 [.ref 33, .int x1, .int x2, .int x3, .int x4] [] (mk (zDm D) ct) :=
  s_aload_n c114_104 rfl <|
  s_getf (ct := ct) c114_105 rfl (by decide) rfl <|
  s_iload_n c114_108 rfl <|
  s_iload_n c114_109 rfl <|
  s_iast (ct := ct) c114_110 rfl hx110 <|
  s_aload_n c114_111 rfl <|
  s_dup c114_112 rfl <|
  s_getf (ct := (u2 ct 42 j110 x3)) c114_113 rfl (by decide) rfl <|
  s_const c114_116 zcI_1 <|
  s_iadd c114_117 <|
  s_putf (ct := (u2 ct 42 j110 x3)) c114_118 rfl (by decide) zint_7_13 xfit_7_13 <|
  s_iinc c114_121 rfl True.intro zcI_1 <|
  s_goto c114_124 <|
  kk
theorem b114_127 {x1 : Int32} {x2 : Int32} {l3 : Value} {l4 : Value} (hq : Q (some (.int (nI 1))) (mk (zDm D) ct)) : RUN X C 114 Q 127 [.ref 33, .int x1, .int x2, l3, l4] [] (mk (zDm D) ct) :=
  s_const c114_127 zcI_1 <|
  s_iret c114_128 (xrtZ rfl (Or.inr rfl)) hq
-- ('PaintedTownModel', 'takesThing', '(Z)Z')
theorem b115_0 {x1 : Int32} {D1 : zD} {ct1 : zM} {v1 : Int32} (he : C 114 [.ref 33, .int (nI 2)] (mk (zDm D) ct) (some (.int v1)) (mk D1 ct1)) (kk : RUN X C 115 Q 5 [.ref 33, .int x1] [.int v1] (mk D1 ct1)) : RUN X C 115 Q 0 [.ref 33, .int x1] [] (mk (zDm D) ct) :=
  s_aload_n c115_0 rfl <|
  s_const c115_1 zcI_2 <|
  s_callv (args := [.int (nI 2)]) (r := []) c115_2 rfl rfl (Nat.le_of_ble_eq_true rfl) rfl ⟨rfl, by decide⟩ he kk
theorem b115_5 {x1 : Int32} {xs0 : Int32} (k1 : xs0 = (nI 0) → RUN X C 115 Q 26 [.ref 33, .int x1] [] (mk (zDm D) ct)) (k2 : ¬ xs0 = (nI 0) → RUN X C 115 Q 8 [.ref 33, .int x1] [] (mk (zDm D) ct)) : RUN X C 115 Q 5 [.ref 33, .int x1] [.int xs0] (mk (zDm D) ct) :=
  s_ifeq c115_5 k1 k2
theorem b115_8 {x1 : Int32} {D1 : zD} {ct1 : zM} {v1 : Int32} (he : C 116 [.ref 33] (mk (zDm D) ct) (some (.int v1)) (mk D1 ct1)) (kk : RUN X C 115 Q 12 [.ref 33, .int x1] [.int v1] (mk D1 ct1)) : RUN X C 115 Q 8 [.ref 33, .int x1] [] (mk (zDm D) ct) :=
  s_aload_n c115_8 rfl <|
  s_callv (args := []) (r := []) c115_9 rfl rfl (Nat.le_of_ble_eq_true rfl) rfl ⟨rfl, by decide⟩ he kk
theorem b115_12 {x1 : Int32} {xs0 : Int32} (k1 : xs0 = (nI 0) → RUN X C 115 Q 26 [.ref 33, .int x1] [] (mk (zDm D) ct)) (k2 : ¬ xs0 = (nI 0) → RUN X C 115 Q 15 [.ref 33, .int x1] [] (mk (zDm D) ct)) : RUN X C 115 Q 12 [.ref 33, .int x1] [.int xs0] (mk (zDm D) ct) :=
  s_ifeq c115_12 k1 k2
theorem b115_15 {x1 : Int32} (k1 : (ct 42 1) ≤ (nI 7) → RUN X C 115 Q 28 [.ref 33, .int x1] [] (mk (zDm D) ct)) (k2 : ¬ (ct 42 1) ≤ (nI 7) → RUN X C 115 Q 26 [.ref 33, .int x1] [] (mk (zDm D) ct)) : RUN X C 115 Q 15 [.ref 33, .int x1] [] (mk (zDm D) ct) :=
  s_aload_n c115_15 rfl <|
  s_getf (ct := ct) c115_16 rfl (by decide) rfl <|
  s_const c115_19 zcI_1 <|
  s_iald (ct := ct) c115_20 rfl (zix_nI (by decide) (by decide)) <|
  s_bipush c115_21 zcB_7 <|
  s_icle c115_23 k1 k2
theorem b115_26 {x1 : Int32} (hq : Q (some (.int (nI 0))) (mk (zDm D) ct)) : RUN X C 115 Q 26 [.ref 33, .int x1] [] (mk (zDm D) ct) :=
  s_const c115_26 zcI_0 <|
  s_iret c115_27 (xrtZ rfl (Or.inl rfl)) hq
theorem b115_28 {x1 : Int32} (k1 : x1 = (nI 0) → RUN X C 115 Q 52 [.ref 33, .int x1] [] (mk (zDm D) ct)) (k2 : ¬ x1 = (nI 0) → RUN X C 115 Q 32 [.ref 33, .int x1] [] (mk (zDm D) ct)) : RUN X C 115 Q 28 [.ref 33, .int x1] [] (mk (zDm D) ct) :=
  s_iload_n c115_28 rfl <|
  s_ifeq c115_29 k1 k2
theorem b115_32 {x1 : Int32} {j51 : Nat} (hx51 : zix ((nI 9) + (ct 42 0)) j51 81) {j71 : Nat} (hx71 : zix ((nI 45) + (ct 42 0)) j71 81) (hq : Q (some (.int (nI 1))) (mk (zDm D) (u2 (u2 ct 35 j51 (ct 42 1)) 35 j71 (ct 42 1)))) : RUN X C 115 Q 32 [.ref 33, .int x1] [] (mk (zDm D) ct) :=
  s_aload_n c115_32 rfl <|
  s_getf (ct := ct) c115_33 rfl (by decide) rfl <|
  s_bipush c115_36 zcB_9 <|
  s_aload_n c115_38 rfl <|
  s_getf (ct := ct) c115_39 rfl (by decide) rfl <|
  s_const c115_42 zcI_0 <|
  s_iald (ct := ct) c115_43 rfl (zix_nI (by decide) (by decide)) <|
  s_iadd c115_44 <|
  s_aload_n c115_45 rfl <|
  s_getf (ct := ct) c115_46 rfl (by decide) rfl <|
  s_const c115_49 zcI_1 <|
  s_iald (ct := ct) c115_50 rfl (zix_nI (by decide) (by decide)) <|
  s_iast (ct := ct) c115_51 rfl hx51 <|
  s_aload_n c115_52 rfl <|
  s_getf (ct := (u2 ct 35 j51 (ct 42 1))) c115_53 rfl (by decide) rfl <|
  s_bipush c115_56 zcB_45 <|
  s_aload_n c115_58 rfl <|
  s_getf (ct := (u2 ct 35 j51 (ct 42 1))) c115_59 rfl (by decide) rfl <|
  s_const c115_62 zcI_0 <|
  s_iald (ct := (u2 ct 35 j51 (ct 42 1))) c115_63 rfl (zix_nI (by decide) (by decide)) <|
  s_iadd c115_64 <|
  s_aload_n c115_65 rfl <|
  s_getf (ct := (u2 ct 35 j51 (ct 42 1))) c115_66 rfl (by decide) rfl <|
  s_const c115_69 zcI_1 <|
  s_iald (ct := (u2 ct 35 j51 (ct 42 1))) c115_70 rfl (zix_nI (by decide) (by decide)) <|
  s_iast (ct := (u2 ct 35 j51 (ct 42 1))) c115_71 rfl hx71 <|
  s_const c115_72 zcI_1 <|
  s_iret c115_73 (xrtZ rfl (Or.inr rfl)) hq
theorem b115_52 {x1 : Int32} {j71 : Nat} (hx71 : zix ((nI 45) + (ct 42 0)) j71 81) (hq : Q (some (.int (nI 1))) (mk (zDm D) (u2 ct 35 j71 (ct 42 1)))) : RUN X C 115 Q 52 [.ref 33, .int x1] [] (mk (zDm D) ct) :=
  s_aload_n c115_52 rfl <|
  s_getf (ct := ct) c115_53 rfl (by decide) rfl <|
  s_bipush c115_56 zcB_45 <|
  s_aload_n c115_58 rfl <|
  s_getf (ct := ct) c115_59 rfl (by decide) rfl <|
  s_const c115_62 zcI_0 <|
  s_iald (ct := ct) c115_63 rfl (zix_nI (by decide) (by decide)) <|
  s_iadd c115_64 <|
  s_aload_n c115_65 rfl <|
  s_getf (ct := ct) c115_66 rfl (by decide) rfl <|
  s_const c115_69 zcI_1 <|
  s_iald (ct := ct) c115_70 rfl (zix_nI (by decide) (by decide)) <|
  s_iast (ct := ct) c115_71 rfl hx71 <|
  s_const c115_72 zcI_1 <|
  s_iret c115_73 (xrtZ rfl (Or.inr rfl)) hq
-- ('PaintedTownModel', 'isThere', '()Z')
theorem b116_0 (k1 : ((ct 35 0) * (ct 35 1)) ≤ (ct 42 0) → RUN X C 116 Q 26 [.ref 33] [] (mk (zDm D) ct)) (k2 : ¬ ((ct 35 0) * (ct 35 1)) ≤ (ct 42 0) → RUN X C 116 Q 22 [.ref 33] [] (mk (zDm D) ct)) : RUN X C 116 Q 0 [.ref 33] [] (mk (zDm D) ct) :=
  s_aload_n c116_0 rfl <|
  s_getf (ct := ct) c116_1 rfl (by decide) rfl <|
  s_const c116_4 zcI_0 <|
  s_iald (ct := ct) c116_5 rfl (zix_nI (by decide) (by decide)) <|
  s_aload_n c116_6 rfl <|
  s_getf (ct := ct) c116_7 rfl (by decide) rfl <|
  s_const c116_10 zcI_0 <|
  s_iald (ct := ct) c116_11 rfl (zix_nI (by decide) (by decide)) <|
  s_aload_n c116_12 rfl <|
  s_getf (ct := ct) c116_13 rfl (by decide) rfl <|
  s_const c116_16 zcI_1 <|
  s_iald (ct := ct) c116_17 rfl (zix_nI (by decide) (by decide)) <|
  s_imul c116_18 <|
  s_icge c116_19 k1 k2
theorem b116_22 (hq : Q (some (.int (nI 1))) (mk (zDm D) ct)) : RUN X C 116 Q 22 [.ref 33] [] (mk (zDm D) ct) :=
  s_const c116_22 zcI_1 <|
  s_goto c116_23 <|
  s_iret c116_27 (xrtZ rfl (Or.inr rfl)) hq
theorem b116_26 (hq : Q (some (.int (nI 0))) (mk (zDm D) ct)) : RUN X C 116 Q 26 [.ref 33] [] (mk (zDm D) ct) :=
  s_const c116_26 zcI_0 <|
  s_iret c116_27 (xrtZ rfl (Or.inl rfl)) hq
-- ('PaintedTownModel', 'takesEye', '()Z')
theorem b117_0 {D1 : zD} {ct1 : zM} {v1 : Int32} (he : C 114 [.ref 33, .int (nI 1)] (mk (zDm D) ct) (some (.int v1)) (mk D1 ct1)) (kk : RUN X C 117 Q 5 [.ref 33] [.int v1] (mk D1 ct1)) : RUN X C 117 Q 0 [.ref 33] [] (mk (zDm D) ct) :=
  s_aload_n c117_0 rfl <|
  s_const c117_1 zcI_1 <|
  s_callv (args := [.int (nI 1)]) (r := []) c117_2 rfl rfl (Nat.le_of_ble_eq_true rfl) rfl ⟨rfl, by decide⟩ he kk
theorem b117_5 {xs0 : Int32} (k1 : xs0 = (nI 0) → RUN X C 117 Q 8 [.ref 33] [] (mk (zDm D) ct)) (k2 : ¬ xs0 = (nI 0) → RUN X C 117 Q 10 [.ref 33] [] (mk (zDm D) ct)) : RUN X C 117 Q 5 [.ref 33] [.int xs0] (mk (zDm D) ct) :=
  s_ifne c117_5 k1 k2
theorem b117_8 (hq : Q (some (.int (nI 0))) (mk (zDm D) ct)) : RUN X C 117 Q 8 [.ref 33] [] (mk (zDm D) ct) :=
  s_const c117_8 zcI_0 <|
  s_iret c117_9 (xrtZ rfl (Or.inl rfl)) hq
theorem b117_10 (hq : Q (some (.int (nI 1))) (mk (zDm D) (u2 ct 35 8 (ct 42 0)))) : RUN X C 117 Q 10 [.ref 33] [] (mk (zDm D) ct) :=
  s_aload_n c117_10 rfl <|
  s_getf (ct := ct) c117_11 rfl (by decide) rfl <|
  s_bipush c117_14 zcB_8 <|
  s_aload_n c117_16 rfl <|
  s_getf (ct := ct) c117_17 rfl (by decide) rfl <|
  s_const c117_20 zcI_0 <|
  s_iald (ct := ct) c117_21 rfl (zix_nI (by decide) (by decide)) <|
  s_iast (ct := ct) c117_22 rfl (zix_nI (by decide) (by decide)) <|
  s_const c117_23 zcI_1 <|
  s_iret c117_24 (xrtZ rfl (Or.inr rfl)) hq
-- ('PaintedTownModel', 'takesWind', '()Z')
theorem b118_0 {D1 : zD} {ct1 : zM} {v1 : Int32} (he : C 114 [.ref 33, .int (nI 1)] (mk (zDm D) ct) (some (.int v1)) (mk D1 ct1)) (kk : RUN X C 118 Q 5 [.ref 33] [.int v1] (mk D1 ct1)) : RUN X C 118 Q 0 [.ref 33] [] (mk (zDm D) ct) :=
  s_aload_n c118_0 rfl <|
  s_const c118_1 zcI_1 <|
  s_callv (args := [.int (nI 1)]) (r := []) c118_2 rfl rfl (Nat.le_of_ble_eq_true rfl) rfl ⟨rfl, by decide⟩ he kk
theorem b118_5 {xs0 : Int32} (k1 : xs0 = (nI 0) → RUN X C 118 Q 18 [.ref 33] [] (mk (zDm D) ct)) (k2 : ¬ xs0 = (nI 0) → RUN X C 118 Q 8 [.ref 33] [] (mk (zDm D) ct)) : RUN X C 118 Q 5 [.ref 33] [.int xs0] (mk (zDm D) ct) :=
  s_ifeq c118_5 k1 k2
theorem b118_8 (k1 : (ct 42 0) ≤ (nI 3) → RUN X C 118 Q 20 [.ref 33] [] (mk (zDm D) ct)) (k2 : ¬ (ct 42 0) ≤ (nI 3) → RUN X C 118 Q 18 [.ref 33] [] (mk (zDm D) ct)) : RUN X C 118 Q 8 [.ref 33] [] (mk (zDm D) ct) :=
  s_aload_n c118_8 rfl <|
  s_getf (ct := ct) c118_9 rfl (by decide) rfl <|
  s_const c118_12 zcI_0 <|
  s_iald (ct := ct) c118_13 rfl (zix_nI (by decide) (by decide)) <|
  s_const c118_14 zcI_3 <|
  s_icle c118_15 k1 k2
theorem b118_18 (hq : Q (some (.int (nI 0))) (mk (zDm D) ct)) : RUN X C 118 Q 18 [.ref 33] [] (mk (zDm D) ct) :=
  s_const c118_18 zcI_0 <|
  s_iret c118_19 (xrtZ rfl (Or.inl rfl)) hq
theorem b118_20 (hq : Q (some (.int (nI 1))) (mk (zDm D) (u2 ct 35 7 (ct 42 0)))) : RUN X C 118 Q 20 [.ref 33] [] (mk (zDm D) ct) :=
  s_aload_n c118_20 rfl <|
  s_getf (ct := ct) c118_21 rfl (by decide) rfl <|
  s_bipush c118_24 zcB_7 <|
  s_aload_n c118_26 rfl <|
  s_getf (ct := ct) c118_27 rfl (by decide) rfl <|
  s_const c118_30 zcI_0 <|
  s_iald (ct := ct) c118_31 rfl (zix_nI (by decide) (by decide)) <|
  s_iast (ct := ct) c118_32 rfl (zix_nI (by decide) (by decide)) <|
  s_const c118_33 zcI_1 <|
  s_iret c118_34 (xrtZ rfl (Or.inr rfl)) hq
-- ('PaintedTownModel', 'takesMay', '()Z')
theorem b119_0 {D1 : zD} {ct1 : zM} {v1 : Int32} (he : C 114 [.ref 33, .int (nI 1)] (mk (zDm D) ct) (some (.int v1)) (mk D1 ct1)) (kk : RUN X C 119 Q 5 [.ref 33] [.int v1] (mk D1 ct1)) : RUN X C 119 Q 0 [.ref 33] [] (mk (zDm D) ct) :=
  s_aload_n c119_0 rfl <|
  s_const c119_1 zcI_1 <|
  s_callv (args := [.int (nI 1)]) (r := []) c119_2 rfl rfl (Nat.le_of_ble_eq_true rfl) rfl ⟨rfl, by decide⟩ he kk
theorem b119_5 {xs0 : Int32} (k1 : xs0 = (nI 0) → RUN X C 119 Q 8 [.ref 33] [] (mk (zDm D) ct)) (k2 : ¬ xs0 = (nI 0) → RUN X C 119 Q 10 [.ref 33] [] (mk (zDm D) ct)) : RUN X C 119 Q 5 [.ref 33] [.int xs0] (mk (zDm D) ct) :=
  s_ifne c119_5 k1 k2
theorem b119_8 (hq : Q (some (.int (nI 0))) (mk (zDm D) ct)) : RUN X C 119 Q 8 [.ref 33] [] (mk (zDm D) ct) :=
  s_const c119_8 zcI_0 <|
  s_iret c119_9 (xrtZ rfl (Or.inl rfl)) hq
theorem b119_10 (hq : Q (some (.int (nI 1))) (mk (zDm D) (u2 ct 35 2 (ct 42 0)))) : RUN X C 119 Q 10 [.ref 33] [] (mk (zDm D) ct) :=
  s_aload_n c119_10 rfl <|
  s_getf (ct := ct) c119_11 rfl (by decide) rfl <|
  s_const c119_14 zcI_2 <|
  s_aload_n c119_15 rfl <|
  s_getf (ct := ct) c119_16 rfl (by decide) rfl <|
  s_const c119_19 zcI_0 <|
  s_iald (ct := ct) c119_20 rfl (zix_nI (by decide) (by decide)) <|
  s_iast (ct := ct) c119_21 rfl (zix_nI (by decide) (by decide)) <|
  s_const c119_22 zcI_1 <|
  s_iret c119_23 (xrtZ rfl (Or.inr rfl)) hq
-- ('PaintedTownModel', 'takesDays', '()Z')
theorem b120_0 {D1 : zD} {ct1 : zM} {v1 : Int32} (he : C 114 [.ref 33, .int (nI 4)] (mk (zDm D) ct) (some (.int v1)) (mk D1 ct1)) (kk : RUN X C 120 Q 5 [.ref 33] [.int v1] (mk D1 ct1)) : RUN X C 120 Q 0 [.ref 33] [] (mk (zDm D) ct) :=
  s_aload_n c120_0 rfl <|
  s_const c120_1 zcI_4 <|
  s_callv (args := [.int (nI 4)]) (r := []) c120_2 rfl rfl (Nat.le_of_ble_eq_true rfl) rfl ⟨rfl, by decide⟩ he kk
theorem b120_5 {xs0 : Int32} (k1 : xs0 = (nI 0) → RUN X C 120 Q 40 [.ref 33] [] (mk (zDm D) ct)) (k2 : ¬ xs0 = (nI 0) → RUN X C 120 Q 8 [.ref 33] [] (mk (zDm D) ct)) : RUN X C 120 Q 5 [.ref 33] [.int xs0] (mk (zDm D) ct) :=
  s_ifeq c120_5 k1 k2
theorem b120_8 (k1 : ((((ct 42 0) + (ct 42 1)) + (ct 42 2)) + (ct 42 3)) = (nI 10) → RUN X C 120 Q 42 [.ref 33] [] (mk (zDm D) ct)) (k2 : ¬ ((((ct 42 0) + (ct 42 1)) + (ct 42 2)) + (ct 42 3)) = (nI 10) → RUN X C 120 Q 40 [.ref 33] [] (mk (zDm D) ct)) : RUN X C 120 Q 8 [.ref 33] [] (mk (zDm D) ct) :=
  s_aload_n c120_8 rfl <|
  s_getf (ct := ct) c120_9 rfl (by decide) rfl <|
  s_const c120_12 zcI_0 <|
  s_iald (ct := ct) c120_13 rfl (zix_nI (by decide) (by decide)) <|
  s_aload_n c120_14 rfl <|
  s_getf (ct := ct) c120_15 rfl (by decide) rfl <|
  s_const c120_18 zcI_1 <|
  s_iald (ct := ct) c120_19 rfl (zix_nI (by decide) (by decide)) <|
  s_iadd c120_20 <|
  s_aload_n c120_21 rfl <|
  s_getf (ct := ct) c120_22 rfl (by decide) rfl <|
  s_const c120_25 zcI_2 <|
  s_iald (ct := ct) c120_26 rfl (zix_nI (by decide) (by decide)) <|
  s_iadd c120_27 <|
  s_aload_n c120_28 rfl <|
  s_getf (ct := ct) c120_29 rfl (by decide) rfl <|
  s_const c120_32 zcI_3 <|
  s_iald (ct := ct) c120_33 rfl (zix_nI (by decide) (by decide)) <|
  s_iadd c120_34 <|
  s_bipush c120_35 zcB_10 <|
  s_iceq c120_37 k1 k2
theorem b120_40 (hq : Q (some (.int (nI 0))) (mk (zDm D) ct)) : RUN X C 120 Q 40 [.ref 33] [] (mk (zDm D) ct) :=
  s_const c120_40 zcI_0 <|
  s_iret c120_41 (xrtZ rfl (Or.inl rfl)) hq
theorem b120_42 {D1 : zD} {ct1 : zM} (he : C 106 [.ref 42, .int (nI 0), .ref 35, .int (nI 3), .int (nI 4)] (mk (zDm D) ct) none (mk D1 ct1)) (kk : RUN X C 120 Q 56 [.ref 33] [] (mk D1 ct1)) : RUN X C 120 Q 42 [.ref 33] [] (mk (zDm D) ct) :=
  s_aload_n c120_42 rfl <|
  s_getf (ct := ct) c120_43 rfl (by decide) rfl <|
  s_const c120_46 zcI_0 <|
  s_aload_n c120_47 rfl <|
  s_getf (ct := ct) c120_48 rfl (by decide) rfl <|
  s_const c120_51 zcI_3 <|
  s_const c120_52 zcI_4 <|
  s_calls (args := [.ref 42, .int (nI 0), .ref 35, .int (nI 3), .int (nI 4)]) (r := []) c120_53 rfl rfl (Nat.le_of_ble_eq_true rfl) he kk
theorem b120_56 (hq : Q (some (.int (nI 1))) (mk (zDm D) ct)) : RUN X C 120 Q 56 [.ref 33] [] (mk (zDm D) ct) :=
  s_const c120_56 zcI_1 <|
  s_iret c120_57 (xrtZ rfl (Or.inr rfl)) hq
-- ('PaintedTownModel', 'lay', '()I')
theorem b121_0 {D1 : zD} {ct1 : zM} {v1 : Int32} (he : C 110 [.ref 33] (mk (zDm D) ct) (some (.int v1)) (mk D1 ct1)) (kk : RUN X C 121 Q 4 [.ref 33] [.int v1] (mk D1 ct1)) : RUN X C 121 Q 0 [.ref 33] [] (mk (zDm D) ct) :=
  s_aload_n c121_0 rfl <|
  s_callv (args := []) (r := []) c121_1 rfl rfl (Nat.le_of_ble_eq_true rfl) rfl ⟨rfl, by decide⟩ he kk
theorem b121_4 {xs0 : Int32} (k1 : xs0 = (-4) → RUN X C 121 Q 9 [.ref 33] [] (mk (zDm D) ct)) (k2 : ¬ xs0 = (-4) → RUN X C 121 Q 39 [.ref 33] [] (mk (zDm D) ct)) : RUN X C 121 Q 4 [.ref 33] [.int xs0] (mk (zDm D) ct) :=
  s_bipush c121_4 zcB_m4 <|
  s_icne c121_6 k1 k2
theorem b121_9 (k1 : (ct 33 9) = (nI 0) → RUN X C 121 Q 39 [.ref 33] [] (mk (zDm D) ct)) (k2 : ¬ (ct 33 9) = (nI 0) → RUN X C 121 Q 16 [.ref 33] [] (mk (zDm D) ct)) : RUN X C 121 Q 9 [.ref 33] [] (mk (zDm D) ct) :=
  s_aload_n c121_9 rfl <|
  s_getf (ct := ct) c121_10 rfl (by decide) rfl <|
  s_ifeq c121_13 k1 k2
theorem b121_16 (k1 : (ct 35 8) < ((ct 35 0) * (ct 35 1)) → RUN X C 121 Q 42 [.ref 33] [] (mk (zDm D) ct)) (k2 : ¬ (ct 35 8) < ((ct 35 0) * (ct 35 1)) → RUN X C 121 Q 39 [.ref 33] [] (mk (zDm D) ct)) : RUN X C 121 Q 16 [.ref 33] [] (mk (zDm D) ct) :=
  s_aload_n c121_16 rfl <|
  s_getf (ct := ct) c121_17 rfl (by decide) rfl <|
  s_bipush c121_20 zcB_8 <|
  s_iald (ct := ct) c121_22 rfl (zix_nI (by decide) (by decide)) <|
  s_aload_n c121_23 rfl <|
  s_getf (ct := ct) c121_24 rfl (by decide) rfl <|
  s_const c121_27 zcI_0 <|
  s_iald (ct := ct) c121_28 rfl (zix_nI (by decide) (by decide)) <|
  s_aload_n c121_29 rfl <|
  s_getf (ct := ct) c121_30 rfl (by decide) rfl <|
  s_const c121_33 zcI_1 <|
  s_iald (ct := ct) c121_34 rfl (zix_nI (by decide) (by decide)) <|
  s_imul c121_35 <|
  s_iclt c121_36 k1 k2
theorem b121_39 (hq : Q (some (.int (-2))) (mk (zDm D) ct)) : RUN X C 121 Q 39 [.ref 33] [] (mk (zDm D) ct) :=
  s_bipush c121_39 zcB_m2 <|
  s_iret c121_41 (xrtI rfl) hq
theorem b121_42 {D1 : zD} {ct1 : zM} (he : C 105 [.ref 33] (mk (zDm D) ct) none (mk D1 ct1)) (kk : RUN X C 121 Q 46 [.ref 33] [] (mk D1 ct1)) : RUN X C 121 Q 42 [.ref 33] [] (mk (zDm D) ct) :=
  s_aload_n c121_42 rfl <|
  s_callv (args := []) (r := []) c121_43 rfl rfl (Nat.le_of_ble_eq_true rfl) rfl ⟨rfl, by decide⟩ he kk
theorem b121_46 {D1 : zD} {ct1 : zM} {v1 : Int32} (he : C 122 [.ref 33] (mk (zDm D) ct) (some (.int v1)) (mk D1 ct1)) (kk : RUN X C 121 Q 50 [.ref 33] [.int v1] (mk D1 ct1)) : RUN X C 121 Q 46 [.ref 33] [] (mk (zDm D) ct) :=
  s_aload_n c121_46 rfl <|
  s_callv (args := []) (r := []) c121_47 rfl rfl (Nat.le_of_ble_eq_true rfl) rfl ⟨rfl, by decide⟩ he kk
theorem b121_50 {xs0 : Int32} (hq : Q (some (.int xs0)) (mk (zDm D) ct)) : RUN X C 121 Q 50 [.ref 33] [.int xs0] (mk (zDm D) ct) :=
  s_iret c121_50 (xrtI rfl) hq
-- ('PaintedTownModel', 'cells', '()I')
theorem b122_0 (hq : Q (some (.int ((ct 34 0) * (ct 34 1)))) (mk (zDm D) ct)) : RUN X C 122 Q 0 [.ref 33] [] (mk (zDm D) ct) :=
  s_aload_n c122_0 rfl <|
  s_getf (ct := ct) c122_1 rfl (by decide) rfl <|
  s_const c122_4 zcI_0 <|
  s_iald (ct := ct) c122_5 rfl (zix_nI (by decide) (by decide)) <|
  s_aload_n c122_6 rfl <|
  s_getf (ct := ct) c122_7 rfl (by decide) rfl <|
  s_const c122_10 zcI_1 <|
  s_iald (ct := ct) c122_11 rfl (zix_nI (by decide) (by decide)) <|
  s_imul c122_12 <|
  s_iret c122_13 (xrtI rfl) hq
-- ('PaintedTownModel', 'cell', '(II)I')
theorem b123_0 {x1 : Int32} {x2 : Int32} {D1 : zD} {ct1 : zM} {v1 : Int32} (he : C 124 [.ref 33, .int x1] (mk (zDm D) ct) (some (.int v1)) (mk D1 ct1)) (kk : RUN X C 123 Q 5 [.ref 33, .int x1, .int x2] [.int v1] (mk D1 ct1)) : RUN X C 123 Q 0 [.ref 33, .int x1, .int x2] [] (mk (zDm D) ct) :=
  s_aload_n c123_0 rfl <|
  s_iload_n c123_1 rfl <|
  s_callv (args := [.int x1]) (r := []) c123_2 rfl rfl (Nat.le_of_ble_eq_true rfl) rfl ⟨rfl, by decide⟩ he kk
theorem b123_5 {x1 : Int32} {x2 : Int32} {xs0 : Int32} (k1 : xs0 = (nI 0) → RUN X C 123 Q 8 [.ref 33, .int x1, .int x2] [] (mk (zDm D) ct)) (k2 : ¬ xs0 = (nI 0) → RUN X C 123 Q 10 [.ref 33, .int x1, .int x2] [] (mk (zDm D) ct)) : RUN X C 123 Q 5 [.ref 33, .int x1, .int x2] [.int xs0] (mk (zDm D) ct) :=
  s_ifne c123_5 k1 k2
theorem b123_8 {x1 : Int32} {x2 : Int32} (hq : Q (some (.int (-1))) (mk (zDm D) ct)) : RUN X C 123 Q 8 [.ref 33, .int x1, .int x2] [] (mk (zDm D) ct) :=
  s_const c123_8 zcI_m1 <|
  s_iret c123_9 (xrtI rfl) hq
theorem b123_10 {x1 : Int32} {x2 : Int32} (kk : xsw [107, 48, 58, 67, 77, 87, 97] (x2.toInt - 0) fun t => RUN X C 123 Q t [.ref 33, .int x1, .int x2] [] (mk (zDm D) ct)) : RUN X C 123 Q 10 [.ref 33, .int x1, .int x2] [] (mk (zDm D) ct) :=
  s_iload_n c123_10 rfl <|
  s_switch c123_11 kk
theorem b123_48 {x1 : Int32} {x2 : Int32} {j56 : Nat} (hx56 : zix ((nI 9) + x1) j56 81) (hq : Q (some (.int (ct 34 j56))) (mk (zDm D) ct)) : RUN X C 123 Q 48 [.ref 33, .int x1, .int x2] [] (mk (zDm D) ct) :=
  s_aload_n c123_48 rfl <|
  s_getf (ct := ct) c123_49 rfl (by decide) rfl <|
  s_bipush c123_52 zcB_9 <|
  s_iload_n c123_54 rfl <|
  s_iadd c123_55 <|
  s_iald (ct := ct) c123_56 rfl hx56 <|
  s_iret c123_57 (xrtI rfl) hq
theorem b123_58 {x1 : Int32} {x2 : Int32} {j65 : Nat} (hx65 : zix ((nI 0) + x1) j65 111) (hq : Q (some (.int (ct 36 j65))) (mk (zDm D) ct)) : RUN X C 123 Q 58 [.ref 33, .int x1, .int x2] [] (mk (zDm D) ct) :=
  s_aload_n c123_58 rfl <|
  s_getf (ct := ct) c123_59 rfl (by decide) rfl <|
  s_const c123_62 zcI_0 <|
  s_iload_n c123_63 rfl <|
  s_iadd c123_64 <|
  s_iald (ct := ct) c123_65 rfl hx65 <|
  s_iret c123_66 (xrtI rfl) hq
theorem b123_67 {x1 : Int32} {x2 : Int32} {D1 : zD} {ct1 : zM} {v1 : Int32} (he : C 125 [.ref 33, .ref 36, .int x1] (mk (zDm D) ct) (some (.int v1)) (mk D1 ct1)) (kk : RUN X C 123 Q 76 [.ref 33, .int x1, .int x2] [.int v1] (mk D1 ct1)) : RUN X C 123 Q 67 [.ref 33, .int x1, .int x2] [] (mk (zDm D) ct) :=
  s_aload_n c123_67 rfl <|
  s_aload_n c123_68 rfl <|
  s_getf (ct := ct) c123_69 rfl (by decide) rfl <|
  s_iload_n c123_72 rfl <|
  s_callv (args := [.ref 36, .int x1]) (r := []) c123_73 rfl rfl (Nat.le_of_ble_eq_true rfl) rfl ⟨rfl, by decide⟩ he kk
theorem b123_76 {x1 : Int32} {x2 : Int32} {xs0 : Int32} (hq : Q (some (.int xs0)) (mk (zDm D) ct)) : RUN X C 123 Q 76 [.ref 33, .int x1, .int x2] [.int xs0] (mk (zDm D) ct) :=
  s_iret c123_76 (xrtI rfl) hq
theorem b123_77 {x1 : Int32} {x2 : Int32} {D1 : zD} {ct1 : zM} {v1 : Int32} (he : C 129 [.ref 33, .ref 36, .int x1] (mk (zDm D) ct) (some (.int v1)) (mk D1 ct1)) (kk : RUN X C 123 Q 86 [.ref 33, .int x1, .int x2] [.int v1] (mk D1 ct1)) : RUN X C 123 Q 77 [.ref 33, .int x1, .int x2] [] (mk (zDm D) ct) :=
  s_aload_n c123_77 rfl <|
  s_aload_n c123_78 rfl <|
  s_getf (ct := ct) c123_79 rfl (by decide) rfl <|
  s_iload_n c123_82 rfl <|
  s_callv (args := [.ref 36, .int x1]) (r := []) c123_83 rfl rfl (Nat.le_of_ble_eq_true rfl) rfl ⟨rfl, by decide⟩ he kk
theorem b123_86 {x1 : Int32} {x2 : Int32} {xs0 : Int32} (hq : Q (some (.int xs0)) (mk (zDm D) ct)) : RUN X C 123 Q 86 [.ref 33, .int x1, .int x2] [.int xs0] (mk (zDm D) ct) :=
  s_iret c123_86 (xrtI rfl) hq
theorem b123_87 {x1 : Int32} {x2 : Int32} {j95 : Nat} (hx95 : zix ((nI 36) + x1) j95 111) (hq : Q (some (.int (ct 36 j95))) (mk (zDm D) ct)) : RUN X C 123 Q 87 [.ref 33, .int x1, .int x2] [] (mk (zDm D) ct) :=
  s_aload_n c123_87 rfl <|
  s_getf (ct := ct) c123_88 rfl (by decide) rfl <|
  s_bipush c123_91 zcB_36 <|
  s_iload_n c123_93 rfl <|
  s_iadd c123_94 <|
  s_iald (ct := ct) c123_95 rfl hx95 <|
  s_iret c123_96 (xrtI rfl) hq
theorem b123_97 {x1 : Int32} {x2 : Int32} {j105 : Nat} (hx105 : zix ((nI 72) + x1) j105 111) (hq : Q (some (.int (ct 36 j105))) (mk (zDm D) ct)) : RUN X C 123 Q 97 [.ref 33, .int x1, .int x2] [] (mk (zDm D) ct) :=
  s_aload_n c123_97 rfl <|
  s_getf (ct := ct) c123_98 rfl (by decide) rfl <|
  s_bipush c123_101 zcB_72 <|
  s_iload_n c123_103 rfl <|
  s_iadd c123_104 <|
  s_iald (ct := ct) c123_105 rfl hx105 <|
  s_iret c123_106 (xrtI rfl) hq
theorem b123_107 {x1 : Int32} {x2 : Int32} (hq : Q (some (.int (-1))) (mk (zDm D) ct)) : RUN X C 123 Q 107 [.ref 33, .int x1, .int x2] [] (mk (zDm D) ct) :=
  s_const c123_107 zcI_m1 <|
  s_iret c123_108 (xrtI rfl) hq
-- ('PaintedTownModel', 'isCell', '(I)Z')
theorem b124_0 {x1 : Int32} {D1 : zD} {ct1 : zM} {v1 : Int32} (he : C 122 [.ref 33] (mk (zDm D) ct) (some (.int v1)) (mk D1 ct1)) (kk : RUN X C 124 Q 7 [.ref 33, .int x1] [.int v1, .long (lN 0), .long (x1.toInt64)] (mk D1 ct1)) : RUN X C 124 Q 0 [.ref 33, .int x1] [] (mk (zDm D) ct) :=
  s_iload_n c124_0 rfl <|
  s_i2l c124_1 <|
  s_lconst c124_2 <|
  s_aload_n c124_3 rfl <|
  s_callv (args := []) (r := [.long (lN 0), .long (x1.toInt64)]) c124_4 rfl rfl (Nat.le_of_ble_eq_true rfl) rfl ⟨rfl, by decide⟩ he kk
theorem b124_7 {x1 : Int32} {ys0 : Int64} {ys1 : Int64} {xs2 : Int32} {D1 : zD} {ct1 : zM} {v1 : Int32} (he : C 108 [.long ys0, .long ys1, .long ((xs2 - (nI 1)).toInt64)] (mk (zDm D) ct) (some (.int v1)) (mk D1 ct1)) (kk : RUN X C 124 Q 13 [.ref 33, .int x1] [.int v1] (mk D1 ct1)) : RUN X C 124 Q 7 [.ref 33, .int x1] [.int xs2, .long ys1, .long ys0] (mk (zDm D) ct) :=
  s_const c124_7 zcI_1 <|
  s_isub c124_8 <|
  s_i2l c124_9 <|
  s_calls (args := [.long ys0, .long ys1, .long ((xs2 - (nI 1)).toInt64)]) (r := []) c124_10 rfl rfl (Nat.le_of_ble_eq_true rfl) he kk
theorem b124_13 {x1 : Int32} {xs0 : Int32} (hq : Q (some (.int xs0)) (mk (zDm D) ct)) (hz13 : xs0 = nI 0 ∨ xs0 = nI 1) : RUN X C 124 Q 13 [.ref 33, .int x1] [.int xs0] (mk (zDm D) ct) :=
  s_iret c124_13 (xrtZ rfl hz13) hq
-- ('PaintedTownModel', 'sees', '([II)I')
theorem b125_0 {a1 n1 : Nat} (ha1 : zsh (zDm D) a1 = (10, n1)) {x2 : Int32} {l3 : Value} {l4 : Value} {l5 : Value} {l6 : Value} {D1 : zD} {ct1 : zM} {v1 : Int32} (he : C 126 [.ref 33, .int x2] (mk (zDm D) ct) (some (.int v1)) (mk D1 ct1)) (kk : RUN X C 125 Q 5 [.ref 33, .ref a1, .int x2, l3, l4, l5, l6] [.int v1] (mk D1 ct1)) : RUN X C 125 Q 0 [.ref 33, .ref a1, .int x2, l3, l4, l5, l6] [] (mk (zDm D) ct) :=
  s_aload_n c125_0 rfl <|
  s_iload_n c125_1 rfl <|
  s_callv (args := [.int x2]) (r := []) c125_2 rfl rfl (Nat.le_of_ble_eq_true rfl) rfl ⟨rfl, by decide⟩ he kk
theorem b125_5 {a1 n1 : Nat} (ha1 : zsh (zDm D) a1 = (10, n1)) {x2 : Int32} {l3 : Value} {l4 : Value} {l5 : Value} {l6 : Value} {xs0 : Int32} {D1 : zD} {ct1 : zM} {v1 : Int32} (he : C 127 [.ref 33, .int x2] (mk (zDm D) ct) (some (.int v1)) (mk D1 ct1)) (kk : RUN X C 125 Q 11 [.ref 33, .ref a1, .int x2, .int xs0, l4, l5, l6] [.int v1] (mk D1 ct1)) : RUN X C 125 Q 5 [.ref 33, .ref a1, .int x2, l3, l4, l5, l6] [.int xs0] (mk (zDm D) ct) :=
  s_istore_n c125_5 (Nat.le_of_ble_eq_true rfl) True.intro <|
  s_aload_n c125_6 rfl <|
  s_iload_n c125_7 rfl <|
  s_callv (args := [.int x2]) (r := []) c125_8 rfl rfl (Nat.le_of_ble_eq_true rfl) rfl ⟨rfl, by decide⟩ he kk
theorem b125_11 {a1 n1 : Nat} (ha1 : zsh (zDm D) a1 = (10, n1)) {x2 : Int32} {x3 : Int32} {l4 : Value} {l5 : Value} {l6 : Value} {xs0 : Int32} {j18 : Nat} (hx18 : zix ((nI 72) + x2) j18 n1) (k1 : (ct a1 j18) = (nI 1) → RUN X C 125 Q 23 [.ref 33, .ref a1, .int x2, .int x3, .int xs0, l5, l6] [] (mk (zDm D) ct)) (k2 : ¬ (ct a1 j18) = (nI 1) → RUN X C 125 Q 33 [.ref 33, .ref a1, .int x2, .int x3, .int xs0, l5, l6] [] (mk (zDm D) ct)) : RUN X C 125 Q 11 [.ref 33, .ref a1, .int x2, .int x3, l4, l5, l6] [.int xs0] (mk (zDm D) ct) :=
  s_istore c125_11 (Nat.le_of_ble_eq_true rfl) True.intro <|
  s_aload_n c125_13 rfl <|
  s_bipush c125_14 zcB_72 <|
  s_iload_n c125_16 rfl <|
  s_iadd c125_17 <|
  s_iald (ct := ct) c125_18 ha1 hx18 <|
  s_const c125_19 zcI_1 <|
  s_icne c125_20 k1 k2
theorem b125_23 {a1 n1 : Nat} (ha1 : zsh (zDm D) a1 = (10, n1)) {x2 : Int32} {x3 : Int32} {x4 : Int32} {l5 : Value} {l6 : Value} {j31 : Nat} (hx31 : zix ((nI 9) + x2) j31 81) (hq : Q (some (.int (ct 34 j31))) (mk (zDm D) ct)) : RUN X C 125 Q 23 [.ref 33, .ref a1, .int x2, .int x3, .int x4, l5, l6] [] (mk (zDm D) ct) :=
  s_aload_n c125_23 rfl <|
  s_getf (ct := ct) c125_24 rfl (by decide) rfl <|
  s_bipush c125_27 zcB_9 <|
  s_iload_n c125_29 rfl <|
  s_iadd c125_30 <|
  s_iald (ct := ct) c125_31 rfl hx31 <|
  s_iret c125_32 (xrtI rfl) hq
theorem b125_33 {a1 n1 : Nat} (ha1 : zsh (zDm D) a1 = (10, n1)) {x2 : Int32} {x3 : Int32} {x4 : Int32} {l5 : Value} {l6 : Value} {j37 : Nat} (hx37 : zix ((nI 0) + x2) j37 n1) (k1 : (ct a1 j37) = (nI 0) → RUN X C 125 Q 56 [.ref 33, .ref a1, .int x2, .int x3, .int x4, l5, l6] [] (mk (zDm D) ct)) (k2 : ¬ (ct a1 j37) = (nI 0) → RUN X C 125 Q 41 [.ref 33, .ref a1, .int x2, .int x3, .int x4, l5, l6] [] (mk (zDm D) ct)) : RUN X C 125 Q 33 [.ref 33, .ref a1, .int x2, .int x3, .int x4, l5, l6] [] (mk (zDm D) ct) :=
  s_aload_n c125_33 rfl <|
  s_const c125_34 zcI_0 <|
  s_iload_n c125_35 rfl <|
  s_iadd c125_36 <|
  s_iald (ct := ct) c125_37 ha1 hx37 <|
  s_ifeq c125_38 k1 k2
theorem b125_41 {a1 n1 : Nat} (ha1 : zsh (zDm D) a1 = (10, n1)) {x2 : Int32} {x3 : Int32} {x4 : Int32} {l5 : Value} {l6 : Value} {j45 : Nat} (hx45 : zix ((nI 0) + x2) j45 n1) (k1 : (ct a1 j45) = (nI 4) → RUN X C 125 Q 56 [.ref 33, .ref a1, .int x2, .int x3, .int x4, l5, l6] [] (mk (zDm D) ct)) (k2 : ¬ (ct a1 j45) = (nI 4) → RUN X C 125 Q 50 [.ref 33, .ref a1, .int x2, .int x3, .int x4, l5, l6] [] (mk (zDm D) ct)) : RUN X C 125 Q 41 [.ref 33, .ref a1, .int x2, .int x3, .int x4, l5, l6] [] (mk (zDm D) ct) :=
  s_aload_n c125_41 rfl <|
  s_const c125_42 zcI_0 <|
  s_iload_n c125_43 rfl <|
  s_iadd c125_44 <|
  s_iald (ct := ct) c125_45 ha1 hx45 <|
  s_const c125_46 zcI_4 <|
  s_iceq c125_47 k1 k2
theorem b125_50 {a1 n1 : Nat} (ha1 : zsh (zDm D) a1 = (10, n1)) {x2 : Int32} {x3 : Int32} {x4 : Int32} {l5 : Value} {l6 : Value} {j54 : Nat} (hx54 : zix ((nI 0) + x2) j54 n1) (hq : Q (some (.int (ct a1 j54))) (mk (zDm D) ct)) : RUN X C 125 Q 50 [.ref 33, .ref a1, .int x2, .int x3, .int x4, l5, l6] [] (mk (zDm D) ct) :=
  s_aload_n c125_50 rfl <|
  s_const c125_51 zcI_0 <|
  s_iload_n c125_52 rfl <|
  s_iadd c125_53 <|
  s_iald (ct := ct) c125_54 ha1 hx54 <|
  s_iret c125_55 (xrtI rfl) hq
theorem b125_56 {a1 n1 : Nat} (ha1 : zsh (zDm D) a1 = (10, n1)) {x2 : Int32} {x3 : Int32} {x4 : Int32} {l5 : Value} {l6 : Value} {D1 : zD} {ct1 : zM} {v1 : Int32} (he : C 128 [.ref 33, .ref a1, .int (x3 + (nI 1)), .int x4] (mk (zDm D) ct) (some (.int v1)) (mk D1 ct1)) (kk : RUN X C 125 Q 66 [.ref 33, .ref a1, .int x2, .int x3, .int x4, l5, l6] [.int v1] (mk D1 ct1)) : RUN X C 125 Q 56 [.ref 33, .ref a1, .int x2, .int x3, .int x4, l5, l6] [] (mk (zDm D) ct) :=
  s_aload_n c125_56 rfl <|
  s_aload_n c125_57 rfl <|
  s_iload_n c125_58 rfl <|
  s_const c125_59 zcI_1 <|
  s_iadd c125_60 <|
  s_iload c125_61 rfl <|
  s_callv (args := [.ref a1, .int (x3 + (nI 1)), .int x4]) (r := []) c125_63 rfl rfl (Nat.le_of_ble_eq_true rfl) rfl ⟨rfl, by decide⟩ he kk
theorem b125_66 {a1 n1 : Nat} (ha1 : zsh (zDm D) a1 = (10, n1)) {x2 : Int32} {x3 : Int32} {x4 : Int32} {l5 : Value} {l6 : Value} {xs0 : Int32} (k1 : xs0 = (nI 5) → RUN X C 125 Q 70 [.ref 33, .ref a1, .int x2, .int x3, .int x4, l5, l6] [] (mk (zDm D) ct)) (k2 : ¬ xs0 = (nI 5) → RUN X C 125 Q 89 [.ref 33, .ref a1, .int x2, .int x3, .int x4, l5, l6] [] (mk (zDm D) ct)) : RUN X C 125 Q 66 [.ref 33, .ref a1, .int x2, .int x3, .int x4, l5, l6] [.int xs0] (mk (zDm D) ct) :=
  s_const c125_66 zcI_5 <|
  s_icne c125_67 k1 k2
theorem b125_70 {a1 n1 : Nat} (ha1 : zsh (zDm D) a1 = (10, n1)) {x2 : Int32} {x3 : Int32} {x4 : Int32} {l5 : Value} {l6 : Value} {j82 : Nat} (hx82 : zix (((nI 36) + x2) + (ct 34 1)) j82 n1) (k1 : (ct a1 j82) ≤ (nI 2) → RUN X C 125 Q 89 [.ref 33, .ref a1, .int x2, .int x3, .int x4, l5, l6] [] (mk (zDm D) ct)) (k2 : ¬ (ct a1 j82) ≤ (nI 2) → RUN X C 125 Q 87 [.ref 33, .ref a1, .int x2, .int x3, .int x4, l5, l6] [] (mk (zDm D) ct)) : RUN X C 125 Q 70 [.ref 33, .ref a1, .int x2, .int x3, .int x4, l5, l6] [] (mk (zDm D) ct) :=
  s_aload_n c125_70 rfl <|
  s_bipush c125_71 zcB_36 <|
  s_iload_n c125_73 rfl <|
  s_iadd c125_74 <|
  s_aload_n c125_75 rfl <|
  s_getf (ct := ct) c125_76 rfl (by decide) rfl <|
  s_const c125_79 zcI_1 <|
  s_iald (ct := ct) c125_80 rfl (zix_nI (by decide) (by decide)) <|
  s_iadd c125_81 <|
  s_iald (ct := ct) c125_82 ha1 hx82 <|
  s_const c125_83 zcI_2 <|
  s_icle c125_84 k1 k2
theorem b125_87 {a1 n1 : Nat} (ha1 : zsh (zDm D) a1 = (10, n1)) {x2 : Int32} {x3 : Int32} {x4 : Int32} {l5 : Value} {l6 : Value} (hq : Q (some (.int (nI 5))) (mk (zDm D) ct)) : RUN X C 125 Q 87 [.ref 33, .ref a1, .int x2, .int x3, .int x4, l5, l6] [] (mk (zDm D) ct) :=
  s_const c125_87 zcI_5 <|
  s_iret c125_88 (xrtI rfl) hq
theorem b125_89 {a1 n1 : Nat} (ha1 : zsh (zDm D) a1 = (10, n1)) {x2 : Int32} {x3 : Int32} {x4 : Int32} {l5 : Value} {l6 : Value} {j92 : Nat} (hx92 : zix (nI 108) j92 n1) (k1 : (ct a1 j92) = (nI 0) → RUN X C 125 Q 100 [.ref 33, .ref a1, .int x2, .int x3, .int x4, .int (ct a1 j92), l6] [] (mk (zDm D) ct)) (k2 : ¬ (ct a1 j92) = (nI 0) → RUN X C 125 Q 108 [.ref 33, .ref a1, .int x2, .int x3, .int x4, .int (ct a1 j92), l6] [] (mk (zDm D) ct)) : RUN X C 125 Q 89 [.ref 33, .ref a1, .int x2, .int x3, .int x4, l5, l6] [] (mk (zDm D) ct) :=
  s_aload_n c125_89 rfl <|
  s_bipush c125_90 zcB_108 <|
  s_iald (ct := ct) c125_92 ha1 hx92 <|
  s_istore c125_93 (Nat.le_of_ble_eq_true rfl) True.intro <|
  s_iload c125_95 rfl <|
  s_ifne c125_97 k1 k2
theorem b125_100 {a1 n1 : Nat} (ha1 : zsh (zDm D) a1 = (10, n1)) {x2 : Int32} {x3 : Int32} {x4 : Int32} {x5 : Int32} {l6 : Value} {j104 : Nat} (hx104 : zix ((nI 0) + x2) j104 n1) (k1 : (ct a1 j104) = (nI 4) → RUN X C 125 Q 164 [.ref 33, .ref a1, .int x2, .int x3, .int x4, .int x5, .int (ct a1 j104)] [] (mk (zDm D) ct)) (k2 : ¬ (ct a1 j104) = (nI 4) → RUN X C 125 Q 168 [.ref 33, .ref a1, .int x2, .int x3, .int x4, .int x5, .int (ct a1 j104)] [] (mk (zDm D) ct)) : RUN X C 125 Q 100 [.ref 33, .ref a1, .int x2, .int x3, .int x4, .int x5, l6] [] (mk (zDm D) ct) :=
  s_aload_n c125_100 rfl <|
  s_const c125_101 zcI_0 <|
  s_iload_n c125_102 rfl <|
  s_iadd c125_103 <|
  s_iald (ct := ct) c125_104 ha1 hx104 <|
  s_goto c125_105 <|
  s_istore c125_156 (Nat.le_of_ble_eq_true rfl) True.intro <|
  s_iload c125_158 rfl <|
  s_const c125_160 zcI_4 <|
  s_icne c125_161 k1 k2
theorem b125_108 {a1 n1 : Nat} (ha1 : zsh (zDm D) a1 = (10, n1)) {x2 : Int32} {x3 : Int32} {x4 : Int32} {x5 : Int32} {l6 : Value} (k1 : x5 = (nI 1) → RUN X C 125 Q 114 [.ref 33, .ref a1, .int x2, .int x3, .int x4, .int x5, l6] [] (mk (zDm D) ct)) (k2 : ¬ x5 = (nI 1) → RUN X C 125 Q 127 [.ref 33, .ref a1, .int x2, .int x3, .int x4, .int x5, l6] [] (mk (zDm D) ct)) : RUN X C 125 Q 108 [.ref 33, .ref a1, .int x2, .int x3, .int x4, .int x5, l6] [] (mk (zDm D) ct) :=
  s_iload c125_108 rfl <|
  s_const c125_110 zcI_1 <|
  s_icne c125_111 k1 k2
theorem b125_114 {a1 n1 : Nat} (ha1 : zsh (zDm D) a1 = (10, n1)) {x2 : Int32} {x3 : Int32} {x4 : Int32} {x5 : Int32} {l6 : Value} {D1 : zD} {ct1 : zM} {v1 : Int32} (he : C 128 [.ref 33, .ref a1, .int (x3 + (nI 1)), .int x4] (mk (zDm D) ct) (some (.int v1)) (mk D1 ct1)) (kk : RUN X C 125 Q 124 [.ref 33, .ref a1, .int x2, .int x3, .int x4, .int x5, l6] [.int v1] (mk D1 ct1)) : RUN X C 125 Q 114 [.ref 33, .ref a1, .int x2, .int x3, .int x4, .int x5, l6] [] (mk (zDm D) ct) :=
  s_aload_n c125_114 rfl <|
  s_aload_n c125_115 rfl <|
  s_iload_n c125_116 rfl <|
  s_const c125_117 zcI_1 <|
  s_iadd c125_118 <|
  s_iload c125_119 rfl <|
  s_callv (args := [.ref a1, .int (x3 + (nI 1)), .int x4]) (r := []) c125_121 rfl rfl (Nat.le_of_ble_eq_true rfl) rfl ⟨rfl, by decide⟩ he kk
theorem b125_124 {a1 n1 : Nat} (ha1 : zsh (zDm D) a1 = (10, n1)) {x2 : Int32} {x3 : Int32} {x4 : Int32} {x5 : Int32} {l6 : Value} {xs0 : Int32} (k1 : xs0 = (nI 4) → RUN X C 125 Q 164 [.ref 33, .ref a1, .int x2, .int x3, .int x4, .int x5, .int xs0] [] (mk (zDm D) ct)) (k2 : ¬ xs0 = (nI 4) → RUN X C 125 Q 168 [.ref 33, .ref a1, .int x2, .int x3, .int x4, .int x5, .int xs0] [] (mk (zDm D) ct)) : RUN X C 125 Q 124 [.ref 33, .ref a1, .int x2, .int x3, .int x4, .int x5, l6] [.int xs0] (mk (zDm D) ct) :=
  s_goto c125_124 <|
  s_istore c125_156 (Nat.le_of_ble_eq_true rfl) True.intro <|
  s_iload c125_158 rfl <|
  s_const c125_160 zcI_4 <|
  s_icne c125_161 k1 k2
theorem b125_127 {a1 n1 : Nat} (ha1 : zsh (zDm D) a1 = (10, n1)) {x2 : Int32} {x3 : Int32} {x4 : Int32} {x5 : Int32} {l6 : Value} (k1 : x5 = (nI 2) → RUN X C 125 Q 133 [.ref 33, .ref a1, .int x2, .int x3, .int x4, .int x5, l6] [] (mk (zDm D) ct)) (k2 : ¬ x5 = (nI 2) → RUN X C 125 Q 146 [.ref 33, .ref a1, .int x2, .int x3, .int x4, .int x5, l6] [] (mk (zDm D) ct)) : RUN X C 125 Q 127 [.ref 33, .ref a1, .int x2, .int x3, .int x4, .int x5, l6] [] (mk (zDm D) ct) :=
  s_iload c125_127 rfl <|
  s_const c125_129 zcI_2 <|
  s_icne c125_130 k1 k2
theorem b125_133 {a1 n1 : Nat} (ha1 : zsh (zDm D) a1 = (10, n1)) {x2 : Int32} {x3 : Int32} {x4 : Int32} {x5 : Int32} {l6 : Value} {D1 : zD} {ct1 : zM} {v1 : Int32} (he : C 128 [.ref 33, .ref a1, .int x3, .int (x4 - (nI 1))] (mk (zDm D) ct) (some (.int v1)) (mk D1 ct1)) (kk : RUN X C 125 Q 143 [.ref 33, .ref a1, .int x2, .int x3, .int x4, .int x5, l6] [.int v1] (mk D1 ct1)) : RUN X C 125 Q 133 [.ref 33, .ref a1, .int x2, .int x3, .int x4, .int x5, l6] [] (mk (zDm D) ct) :=
  s_aload_n c125_133 rfl <|
  s_aload_n c125_134 rfl <|
  s_iload_n c125_135 rfl <|
  s_iload c125_136 rfl <|
  s_const c125_138 zcI_1 <|
  s_isub c125_139 <|
  s_callv (args := [.ref a1, .int x3, .int (x4 - (nI 1))]) (r := []) c125_140 rfl rfl (Nat.le_of_ble_eq_true rfl) rfl ⟨rfl, by decide⟩ he kk
theorem b125_143 {a1 n1 : Nat} (ha1 : zsh (zDm D) a1 = (10, n1)) {x2 : Int32} {x3 : Int32} {x4 : Int32} {x5 : Int32} {l6 : Value} {xs0 : Int32} (k1 : xs0 = (nI 4) → RUN X C 125 Q 164 [.ref 33, .ref a1, .int x2, .int x3, .int x4, .int x5, .int xs0] [] (mk (zDm D) ct)) (k2 : ¬ xs0 = (nI 4) → RUN X C 125 Q 168 [.ref 33, .ref a1, .int x2, .int x3, .int x4, .int x5, .int xs0] [] (mk (zDm D) ct)) : RUN X C 125 Q 143 [.ref 33, .ref a1, .int x2, .int x3, .int x4, .int x5, l6] [.int xs0] (mk (zDm D) ct) :=
  s_goto c125_143 <|
  s_istore c125_156 (Nat.le_of_ble_eq_true rfl) True.intro <|
  s_iload c125_158 rfl <|
  s_const c125_160 zcI_4 <|
  s_icne c125_161 k1 k2
theorem b125_146 {a1 n1 : Nat} (ha1 : zsh (zDm D) a1 = (10, n1)) {x2 : Int32} {x3 : Int32} {x4 : Int32} {x5 : Int32} {l6 : Value} {D1 : zD} {ct1 : zM} {v1 : Int32} (he : C 128 [.ref 33, .ref a1, .int x3, .int (x4 + (nI 1))] (mk (zDm D) ct) (some (.int v1)) (mk D1 ct1)) (kk : RUN X C 125 Q 156 [.ref 33, .ref a1, .int x2, .int x3, .int x4, .int x5, l6] [.int v1] (mk D1 ct1)) : RUN X C 125 Q 146 [.ref 33, .ref a1, .int x2, .int x3, .int x4, .int x5, l6] [] (mk (zDm D) ct) :=
  s_aload_n c125_146 rfl <|
  s_aload_n c125_147 rfl <|
  s_iload_n c125_148 rfl <|
  s_iload c125_149 rfl <|
  s_const c125_151 zcI_1 <|
  s_iadd c125_152 <|
  s_callv (args := [.ref a1, .int x3, .int (x4 + (nI 1))]) (r := []) c125_153 rfl rfl (Nat.le_of_ble_eq_true rfl) rfl ⟨rfl, by decide⟩ he kk
theorem b125_156 {a1 n1 : Nat} (ha1 : zsh (zDm D) a1 = (10, n1)) {x2 : Int32} {x3 : Int32} {x4 : Int32} {x5 : Int32} {l6 : Value} {xs0 : Int32} (k1 : xs0 = (nI 4) → RUN X C 125 Q 164 [.ref 33, .ref a1, .int x2, .int x3, .int x4, .int x5, .int xs0] [] (mk (zDm D) ct)) (k2 : ¬ xs0 = (nI 4) → RUN X C 125 Q 168 [.ref 33, .ref a1, .int x2, .int x3, .int x4, .int x5, .int xs0] [] (mk (zDm D) ct)) : RUN X C 125 Q 156 [.ref 33, .ref a1, .int x2, .int x3, .int x4, .int x5, l6] [.int xs0] (mk (zDm D) ct) :=
  s_istore c125_156 (Nat.le_of_ble_eq_true rfl) True.intro <|
  s_iload c125_158 rfl <|
  s_const c125_160 zcI_4 <|
  s_icne c125_161 k1 k2
theorem b125_164 {a1 n1 : Nat} (ha1 : zsh (zDm D) a1 = (10, n1)) {x2 : Int32} {x3 : Int32} {x4 : Int32} {x5 : Int32} {x6 : Int32} (hq : Q (some (.int (nI 4))) (mk (zDm D) ct)) : RUN X C 125 Q 164 [.ref 33, .ref a1, .int x2, .int x3, .int x4, .int x5, .int x6] [] (mk (zDm D) ct) :=
  s_const c125_164 zcI_4 <|
  s_goto c125_165 <|
  s_iret c125_169 (xrtI rfl) hq
theorem b125_168 {a1 n1 : Nat} (ha1 : zsh (zDm D) a1 = (10, n1)) {x2 : Int32} {x3 : Int32} {x4 : Int32} {x5 : Int32} {x6 : Int32} (hq : Q (some (.int (nI 0))) (mk (zDm D) ct)) : RUN X C 125 Q 168 [.ref 33, .ref a1, .int x2, .int x3, .int x4, .int x5, .int x6] [] (mk (zDm D) ct) :=
  s_const c125_168 zcI_0 <|
  s_iret c125_169 (xrtI rfl) hq
-- ('PaintedTownModel', 'rowOf', '(I)I')
theorem b126_0 {x1 : Int32} (hz7 : ¬ (ct 34 1) = 0) (hq : Q (some (.int (x1 / (ct 34 1)))) (mk (zDm D) ct)) : RUN X C 126 Q 0 [.ref 33, .int x1] [] (mk (zDm D) ct) :=
  s_iload_n c126_0 rfl <|
  s_aload_n c126_1 rfl <|
  s_getf (ct := ct) c126_2 rfl (by decide) rfl <|
  s_const c126_5 zcI_1 <|
  s_iald (ct := ct) c126_6 rfl (zix_nI (by decide) (by decide)) <|
  s_idiv c126_7 hz7 <|
  s_iret c126_8 (xrtI rfl) hq
-- ('PaintedTownModel', 'columnOf', '(I)I')
theorem b127_0 {x1 : Int32} (hz7 : ¬ (ct 34 1) = 0) (hq : Q (some (.int (x1 - x1 / (ct 34 1) * (ct 34 1)))) (mk (zDm D) ct)) : RUN X C 127 Q 0 [.ref 33, .int x1] [] (mk (zDm D) ct) :=
  s_iload_n c127_0 rfl <|
  s_aload_n c127_1 rfl <|
  s_getf (ct := ct) c127_2 rfl (by decide) rfl <|
  s_const c127_5 zcI_1 <|
  s_iald (ct := ct) c127_6 rfl (zix_nI (by decide) (by decide)) <|
  s_irem c127_7 hz7 <|
  s_iret c127_8 (xrtI rfl) hq
-- ('PaintedTownModel', 'thing', '([III)I')
theorem b128_0 {a1 n1 : Nat} (ha1 : zsh (zDm D) a1 = (10, n1)) {x2 : Int32} {x3 : Int32} {l4 : Value} {D1 : zD} {ct1 : zM} {v1 : Int32} (he : C 108 [.long (x2.toInt64), .long (lN 0), .long (((ct 34 0) - (nI 1)).toInt64)] (mk (zDm D) ct) (some (.int v1)) (mk D1 ct1)) (kk : RUN X C 128 Q 15 [.ref 33, .ref a1, .int x2, .int x3, l4] [.int v1] (mk D1 ct1)) : RUN X C 128 Q 0 [.ref 33, .ref a1, .int x2, .int x3, l4] [] (mk (zDm D) ct) :=
  s_iload_n c128_0 rfl <|
  s_i2l c128_1 <|
  s_lconst c128_2 <|
  s_aload_n c128_3 rfl <|
  s_getf (ct := ct) c128_4 rfl (by decide) rfl <|
  s_const c128_7 zcI_0 <|
  s_iald (ct := ct) c128_8 rfl (zix_nI (by decide) (by decide)) <|
  s_const c128_9 zcI_1 <|
  s_isub c128_10 <|
  s_i2l c128_11 <|
  s_calls (args := [.long (x2.toInt64), .long (lN 0), .long (((ct 34 0) - (nI 1)).toInt64)]) (r := []) c128_12 rfl rfl (Nat.le_of_ble_eq_true rfl) he kk
theorem b128_15 {a1 n1 : Nat} (ha1 : zsh (zDm D) a1 = (10, n1)) {x2 : Int32} {x3 : Int32} {l4 : Value} {xs0 : Int32} (k1 : xs0 = (nI 0) → RUN X C 128 Q 40 [.ref 33, .ref a1, .int x2, .int x3, l4] [] (mk (zDm D) ct)) (k2 : ¬ xs0 = (nI 0) → RUN X C 128 Q 18 [.ref 33, .ref a1, .int x2, .int x3, l4] [] (mk (zDm D) ct)) : RUN X C 128 Q 15 [.ref 33, .ref a1, .int x2, .int x3, l4] [.int xs0] (mk (zDm D) ct) :=
  s_ifeq c128_15 k1 k2
theorem b128_18 {a1 n1 : Nat} (ha1 : zsh (zDm D) a1 = (10, n1)) {x2 : Int32} {x3 : Int32} {l4 : Value} {D1 : zD} {ct1 : zM} {v1 : Int32} (he : C 108 [.long (x3.toInt64), .long (lN 0), .long (((ct 34 1) - (nI 1)).toInt64)] (mk (zDm D) ct) (some (.int v1)) (mk D1 ct1)) (kk : RUN X C 128 Q 33 [.ref 33, .ref a1, .int x2, .int x3, l4] [.int v1] (mk D1 ct1)) : RUN X C 128 Q 18 [.ref 33, .ref a1, .int x2, .int x3, l4] [] (mk (zDm D) ct) :=
  s_iload_n c128_18 rfl <|
  s_i2l c128_19 <|
  s_lconst c128_20 <|
  s_aload_n c128_21 rfl <|
  s_getf (ct := ct) c128_22 rfl (by decide) rfl <|
  s_const c128_25 zcI_1 <|
  s_iald (ct := ct) c128_26 rfl (zix_nI (by decide) (by decide)) <|
  s_const c128_27 zcI_1 <|
  s_isub c128_28 <|
  s_i2l c128_29 <|
  s_calls (args := [.long (x3.toInt64), .long (lN 0), .long (((ct 34 1) - (nI 1)).toInt64)]) (r := []) c128_30 rfl rfl (Nat.le_of_ble_eq_true rfl) he kk
theorem b128_33 {a1 n1 : Nat} (ha1 : zsh (zDm D) a1 = (10, n1)) {x2 : Int32} {x3 : Int32} {l4 : Value} {xs0 : Int32} (k1 : xs0 = (nI 0) → RUN X C 128 Q 40 [.ref 33, .ref a1, .int x2, .int x3, l4] [] (mk (zDm D) ct)) (k2 : ¬ xs0 = (nI 0) → RUN X C 128 Q 36 [.ref 33, .ref a1, .int x2, .int x3, l4] [] (mk (zDm D) ct)) : RUN X C 128 Q 33 [.ref 33, .ref a1, .int x2, .int x3, l4] [.int xs0] (mk (zDm D) ct) :=
  s_ifeq c128_33 k1 k2
theorem b128_36 {a1 n1 : Nat} (ha1 : zsh (zDm D) a1 = (10, n1)) {x2 : Int32} {x3 : Int32} {l4 : Value} (k1 : (nI 1) = (nI 0) → RUN X C 128 Q 65 [.ref 33, .ref a1, .int x2, .int x3, .int (nI 1)] [] (mk (zDm D) ct)) (k2 : ¬ (nI 1) = (nI 0) → RUN X C 128 Q 48 [.ref 33, .ref a1, .int x2, .int x3, .int (nI 1)] [] (mk (zDm D) ct)) : RUN X C 128 Q 36 [.ref 33, .ref a1, .int x2, .int x3, l4] [] (mk (zDm D) ct) :=
  s_const c128_36 zcI_1 <|
  s_goto c128_37 <|
  s_istore c128_41 (Nat.le_of_ble_eq_true rfl) True.intro <|
  s_iload c128_43 rfl <|
  s_ifeq c128_45 k1 k2
theorem b128_40 {a1 n1 : Nat} (ha1 : zsh (zDm D) a1 = (10, n1)) {x2 : Int32} {x3 : Int32} {l4 : Value} (k1 : (nI 0) = (nI 0) → RUN X C 128 Q 65 [.ref 33, .ref a1, .int x2, .int x3, .int (nI 0)] [] (mk (zDm D) ct)) (k2 : ¬ (nI 0) = (nI 0) → RUN X C 128 Q 48 [.ref 33, .ref a1, .int x2, .int x3, .int (nI 0)] [] (mk (zDm D) ct)) : RUN X C 128 Q 40 [.ref 33, .ref a1, .int x2, .int x3, l4] [] (mk (zDm D) ct) :=
  s_const c128_40 zcI_0 <|
  s_istore c128_41 (Nat.le_of_ble_eq_true rfl) True.intro <|
  s_iload c128_43 rfl <|
  s_ifeq c128_45 k1 k2
theorem b128_48 {a1 n1 : Nat} (ha1 : zsh (zDm D) a1 = (10, n1)) {x2 : Int32} {x3 : Int32} {x4 : Int32} {j61 : Nat} (hx61 : zix (((nI 0) + (x2 * (ct 34 1))) + x3) j61 n1) (hq : Q (some (.int (ct a1 j61))) (mk (zDm D) ct)) : RUN X C 128 Q 48 [.ref 33, .ref a1, .int x2, .int x3, .int x4] [] (mk (zDm D) ct) :=
  s_aload_n c128_48 rfl <|
  s_const c128_49 zcI_0 <|
  s_iload_n c128_50 rfl <|
  s_aload_n c128_51 rfl <|
  s_getf (ct := ct) c128_52 rfl (by decide) rfl <|
  s_const c128_55 zcI_1 <|
  s_iald (ct := ct) c128_56 rfl (zix_nI (by decide) (by decide)) <|
  s_imul c128_57 <|
  s_iadd c128_58 <|
  s_iload_n c128_59 rfl <|
  s_iadd c128_60 <|
  s_iald (ct := ct) c128_61 ha1 hx61 <|
  s_goto c128_62 <|
  s_iret c128_67 (xrtI rfl) hq
theorem b128_65 {a1 n1 : Nat} (ha1 : zsh (zDm D) a1 = (10, n1)) {x2 : Int32} {x3 : Int32} {x4 : Int32} (hq : Q (some (.int (-4))) (mk (zDm D) ct)) : RUN X C 128 Q 65 [.ref 33, .ref a1, .int x2, .int x3, .int x4] [] (mk (zDm D) ct) :=
  s_bipush c128_65 zcB_m4 <|
  s_iret c128_67 (xrtI rfl) hq
-- ('PaintedTownModel', 'costs', '([II)I')
theorem b129_0 {a1 n1 : Nat} (ha1 : zsh (zDm D) a1 = (10, n1)) {x2 : Int32} {l3 : Value} {l4 : Value} {l5 : Value} {l6 : Value} {l7 : Value} {D1 : zD} {ct1 : zM} {v1 : Int32} (he : C 125 [.ref 33, .ref a1, .int x2] (mk (zDm D) ct) (some (.int v1)) (mk D1 ct1)) (kk : RUN X C 129 Q 6 [.ref 33, .ref a1, .int x2, l3, l4, l5, l6, l7] [.int v1] (mk D1 ct1)) : RUN X C 129 Q 0 [.ref 33, .ref a1, .int x2, l3, l4, l5, l6, l7] [] (mk (zDm D) ct) :=
  s_aload_n c129_0 rfl <|
  s_aload_n c129_1 rfl <|
  s_iload_n c129_2 rfl <|
  s_callv (args := [.ref a1, .int x2]) (r := []) c129_3 rfl rfl (Nat.le_of_ble_eq_true rfl) rfl ⟨rfl, by decide⟩ he kk
theorem b129_6 {a1 n1 : Nat} (ha1 : zsh (zDm D) a1 = (10, n1)) {x2 : Int32} {l3 : Value} {l4 : Value} {l5 : Value} {l6 : Value} {l7 : Value} {xs0 : Int32} {j15 : Nat} (hx15 : zix ((nI 9) + x2) j15 81) (k1 : xs0 = (ct 34 j15) → RUN X C 129 Q 24 [.ref 33, .ref a1, .int x2, .int xs0, .int (ct 34 j15), l5, l6, l7] [] (mk (zDm D) ct)) (k2 : ¬ xs0 = (ct 34 j15) → RUN X C 129 Q 26 [.ref 33, .ref a1, .int x2, .int xs0, .int (ct 34 j15), l5, l6, l7] [] (mk (zDm D) ct)) : RUN X C 129 Q 6 [.ref 33, .ref a1, .int x2, l3, l4, l5, l6, l7] [.int xs0] (mk (zDm D) ct) :=
  s_istore_n c129_6 (Nat.le_of_ble_eq_true rfl) True.intro <|
  s_aload_n c129_7 rfl <|
  s_getf (ct := ct) c129_8 rfl (by decide) rfl <|
  s_bipush c129_11 zcB_9 <|
  s_iload_n c129_13 rfl <|
  s_iadd c129_14 <|
  s_iald (ct := ct) c129_15 rfl hx15 <|
  s_istore c129_16 (Nat.le_of_ble_eq_true rfl) True.intro <|
  s_iload_n c129_18 rfl <|
  s_iload c129_19 rfl <|
  s_icne c129_21 k1 k2
theorem b129_24 {a1 n1 : Nat} (ha1 : zsh (zDm D) a1 = (10, n1)) {x2 : Int32} {x3 : Int32} {x4 : Int32} {l5 : Value} {l6 : Value} {l7 : Value} (hq : Q (some (.int (nI 0))) (mk (zDm D) ct)) : RUN X C 129 Q 24 [.ref 33, .ref a1, .int x2, .int x3, .int x4, l5, l6, l7] [] (mk (zDm D) ct) :=
  s_const c129_24 zcI_0 <|
  s_iret c129_25 (xrtI rfl) hq
theorem b129_26 {a1 n1 : Nat} (ha1 : zsh (zDm D) a1 = (10, n1)) {x2 : Int32} {x3 : Int32} {x4 : Int32} {l5 : Value} {l6 : Value} {l7 : Value} {D1 : zD} {ct1 : zM} {v1 : Int32} (he : C 130 [.int x3] (mk (zDm D) ct) (some (.int v1)) (mk D1 ct1)) (kk : RUN X C 129 Q 30 [.ref 33, .ref a1, .int x2, .int x3, .int x4, l5, l6, l7] [.int v1] (mk D1 ct1)) : RUN X C 129 Q 26 [.ref 33, .ref a1, .int x2, .int x3, .int x4, l5, l6, l7] [] (mk (zDm D) ct) :=
  s_iload_n c129_26 rfl <|
  s_calls (args := [.int x3]) (r := []) c129_27 rfl rfl (Nat.le_of_ble_eq_true rfl) he kk
theorem b129_30 {a1 n1 : Nat} (ha1 : zsh (zDm D) a1 = (10, n1)) {x2 : Int32} {x3 : Int32} {x4 : Int32} {l5 : Value} {l6 : Value} {l7 : Value} {xs0 : Int32} {D1 : zD} {ct1 : zM} {v1 : Int32} (he : C 130 [.int x4] (mk (zDm D) ct) (some (.int v1)) (mk D1 ct1)) (kk : RUN X C 129 Q 37 [.ref 33, .ref a1, .int x2, .int x3, .int x4, .int xs0, l6, l7] [.int v1] (mk D1 ct1)) : RUN X C 129 Q 30 [.ref 33, .ref a1, .int x2, .int x3, .int x4, l5, l6, l7] [.int xs0] (mk (zDm D) ct) :=
  s_istore c129_30 (Nat.le_of_ble_eq_true rfl) True.intro <|
  s_iload c129_32 rfl <|
  s_calls (args := [.int x4]) (r := []) c129_34 rfl rfl (Nat.le_of_ble_eq_true rfl) he kk
theorem b129_37 {a1 n1 : Nat} (ha1 : zsh (zDm D) a1 = (10, n1)) {x2 : Int32} {x3 : Int32} {x4 : Int32} {x5 : Int32} {l6 : Value} {l7 : Value} {xs0 : Int32} {D1 : zD} {ct1 : zM} {v1 : Int32} (he : C 126 [.ref 33, .int x2] (mk (zDm D) ct) (some (.int v1)) (mk D1 ct1)) (kk : RUN X C 129 Q 45 [.ref 33, .ref a1, .int x2, .int x3, .int x4, .int x5, .int xs0, l7] [.int v1, .int (nI 5)] (mk D1 ct1)) : RUN X C 129 Q 37 [.ref 33, .ref a1, .int x2, .int x3, .int x4, .int x5, l6, l7] [.int xs0] (mk (zDm D) ct) :=
  s_istore c129_37 (Nat.le_of_ble_eq_true rfl) True.intro <|
  s_const c129_39 zcI_5 <|
  s_aload_n c129_40 rfl <|
  s_iload_n c129_41 rfl <|
  s_callv (args := [.int x2]) (r := [.int (nI 5)]) c129_42 rfl rfl (Nat.le_of_ble_eq_true rfl) rfl ⟨rfl, by decide⟩ he kk
theorem b129_45 {a1 n1 : Nat} (ha1 : zsh (zDm D) a1 = (10, n1)) {x2 : Int32} {x3 : Int32} {x4 : Int32} {x5 : Int32} {x6 : Int32} {l7 : Value} {xs0 : Int32} {xs1 : Int32} {D1 : zD} {ct1 : zM} {v1 : Int32} {j49 : Nat} (hx49 : zix (nI 109) j49 n1) (he : C 126 [.ref 33, .int (ct a1 j49)] (mk (zDm D) ct) (some (.int v1)) (mk D1 ct1)) (kk : RUN X C 129 Q 53 [.ref 33, .ref a1, .int x2, .int x3, .int x4, .int x5, .int x6, l7] [.int v1, .int xs1, .int xs0] (mk D1 ct1)) : RUN X C 129 Q 45 [.ref 33, .ref a1, .int x2, .int x3, .int x4, .int x5, .int x6, l7] [.int xs1, .int xs0] (mk (zDm D) ct) :=
  s_aload_n c129_45 rfl <|
  s_aload_n c129_46 rfl <|
  s_bipush c129_47 zcB_109 <|
  s_iald (ct := ct) c129_49 ha1 hx49 <|
  s_callv (args := [.int (ct a1 j49)]) (r := [.int xs1, .int xs0]) c129_50 rfl rfl (Nat.le_of_ble_eq_true rfl) rfl ⟨rfl, by decide⟩ he kk
theorem b129_53 {a1 n1 : Nat} (ha1 : zsh (zDm D) a1 = (10, n1)) {x2 : Int32} {x3 : Int32} {x4 : Int32} {x5 : Int32} {x6 : Int32} {l7 : Value} {xs0 : Int32} {xs1 : Int32} {xs2 : Int32} {D1 : zD} {ct1 : zM} {v1 : Int32} (he : C 131 [.int (xs1 - xs2)] (mk (zDm D) ct) (some (.int v1)) (mk D1 ct1)) (kk : RUN X C 129 Q 57 [.ref 33, .ref a1, .int x2, .int x3, .int x4, .int x5, .int x6, l7] [.int v1, .int xs0] (mk D1 ct1)) : RUN X C 129 Q 53 [.ref 33, .ref a1, .int x2, .int x3, .int x4, .int x5, .int x6, l7] [.int xs2, .int xs1, .int xs0] (mk (zDm D) ct) :=
  s_isub c129_53 <|
  s_calls (args := [.int (xs1 - xs2)]) (r := [.int xs0]) c129_54 rfl rfl (Nat.le_of_ble_eq_true rfl) he kk
theorem b129_57 {a1 n1 : Nat} (ha1 : zsh (zDm D) a1 = (10, n1)) {x2 : Int32} {x3 : Int32} {x4 : Int32} {x5 : Int32} {x6 : Int32} {l7 : Value} {xs0 : Int32} {xs1 : Int32} {D1 : zD} {ct1 : zM} {v1 : Int32} (he : C 127 [.ref 33, .int x2] (mk (zDm D) ct) (some (.int v1)) (mk D1 ct1)) (kk : RUN X C 129 Q 63 [.ref 33, .ref a1, .int x2, .int x3, .int x4, .int x5, .int x6, l7] [.int v1, .int (xs0 - xs1)] (mk D1 ct1)) : RUN X C 129 Q 57 [.ref 33, .ref a1, .int x2, .int x3, .int x4, .int x5, .int x6, l7] [.int xs1, .int xs0] (mk (zDm D) ct) :=
  s_isub c129_57 <|
  s_aload_n c129_58 rfl <|
  s_iload_n c129_59 rfl <|
  s_callv (args := [.int x2]) (r := [.int (xs0 - xs1)]) c129_60 rfl rfl (Nat.le_of_ble_eq_true rfl) rfl ⟨rfl, by decide⟩ he kk
theorem b129_63 {a1 n1 : Nat} (ha1 : zsh (zDm D) a1 = (10, n1)) {x2 : Int32} {x3 : Int32} {x4 : Int32} {x5 : Int32} {x6 : Int32} {l7 : Value} {xs0 : Int32} {xs1 : Int32} {D1 : zD} {ct1 : zM} {v1 : Int32} {j67 : Nat} (hx67 : zix (nI 109) j67 n1) (he : C 127 [.ref 33, .int (ct a1 j67)] (mk (zDm D) ct) (some (.int v1)) (mk D1 ct1)) (kk : RUN X C 129 Q 71 [.ref 33, .ref a1, .int x2, .int x3, .int x4, .int x5, .int x6, l7] [.int v1, .int xs1, .int xs0] (mk D1 ct1)) : RUN X C 129 Q 63 [.ref 33, .ref a1, .int x2, .int x3, .int x4, .int x5, .int x6, l7] [.int xs1, .int xs0] (mk (zDm D) ct) :=
  s_aload_n c129_63 rfl <|
  s_aload_n c129_64 rfl <|
  s_bipush c129_65 zcB_109 <|
  s_iald (ct := ct) c129_67 ha1 hx67 <|
  s_callv (args := [.int (ct a1 j67)]) (r := [.int xs1, .int xs0]) c129_68 rfl rfl (Nat.le_of_ble_eq_true rfl) rfl ⟨rfl, by decide⟩ he kk
theorem b129_71 {a1 n1 : Nat} (ha1 : zsh (zDm D) a1 = (10, n1)) {x2 : Int32} {x3 : Int32} {x4 : Int32} {x5 : Int32} {x6 : Int32} {l7 : Value} {xs0 : Int32} {xs1 : Int32} {xs2 : Int32} {D1 : zD} {ct1 : zM} {v1 : Int32} (he : C 131 [.int (xs1 - xs2)] (mk (zDm D) ct) (some (.int v1)) (mk D1 ct1)) (kk : RUN X C 129 Q 75 [.ref 33, .ref a1, .int x2, .int x3, .int x4, .int x5, .int x6, l7] [.int v1, .int xs0] (mk D1 ct1)) : RUN X C 129 Q 71 [.ref 33, .ref a1, .int x2, .int x3, .int x4, .int x5, .int x6, l7] [.int xs2, .int xs1, .int xs0] (mk (zDm D) ct) :=
  s_isub c129_71 <|
  s_calls (args := [.int (xs1 - xs2)]) (r := [.int xs0]) c129_72 rfl rfl (Nat.le_of_ble_eq_true rfl) he kk
theorem b129_75 {a1 n1 : Nat} (ha1 : zsh (zDm D) a1 = (10, n1)) {x2 : Int32} {x3 : Int32} {x4 : Int32} {x5 : Int32} {x6 : Int32} {l7 : Value} {xs0 : Int32} {xs1 : Int32} (k1 : x5 ≤ x6 → RUN X C 129 Q 90 [.ref 33, .ref a1, .int x2, .int x3, .int x4, .int x5, .int x6, .int (xs0 - xs1)] [] (mk (zDm D) ct)) (k2 : ¬ x5 ≤ x6 → RUN X C 129 Q 85 [.ref 33, .ref a1, .int x2, .int x3, .int x4, .int x5, .int x6, .int (xs0 - xs1)] [] (mk (zDm D) ct)) : RUN X C 129 Q 75 [.ref 33, .ref a1, .int x2, .int x3, .int x4, .int x5, .int x6, l7] [.int xs1, .int xs0] (mk (zDm D) ct) :=
  s_isub c129_75 <|
  s_istore c129_76 (Nat.le_of_ble_eq_true rfl) True.intro <|
  s_iload c129_78 rfl <|
  s_iload c129_80 rfl <|
  s_icle c129_82 k1 k2
theorem b129_85 {a1 n1 : Nat} (ha1 : zsh (zDm D) a1 = (10, n1)) {x2 : Int32} {x3 : Int32} {x4 : Int32} {x5 : Int32} {x6 : Int32} {x7 : Int32} (k1 : (nI 1) ≤ x7 → RUN X C 129 Q 102 [.ref 33, .ref a1, .int x2, .int x3, .int x4, .int x5, .int x6, .int x7] [.int x5] (mk (zDm D) ct)) (k2 : ¬ (nI 1) ≤ x7 → RUN X C 129 Q 98 [.ref 33, .ref a1, .int x2, .int x3, .int x4, .int x5, .int x6, .int x7] [.int x5] (mk (zDm D) ct)) : RUN X C 129 Q 85 [.ref 33, .ref a1, .int x2, .int x3, .int x4, .int x5, .int x6, .int x7] [] (mk (zDm D) ct) :=
  s_iload c129_85 rfl <|
  s_goto c129_87 <|
  s_iload c129_92 rfl <|
  s_const c129_94 zcI_1 <|
  s_icge c129_95 k1 k2
theorem b129_90 {a1 n1 : Nat} (ha1 : zsh (zDm D) a1 = (10, n1)) {x2 : Int32} {x3 : Int32} {x4 : Int32} {x5 : Int32} {x6 : Int32} {x7 : Int32} (k1 : (nI 1) ≤ x7 → RUN X C 129 Q 102 [.ref 33, .ref a1, .int x2, .int x3, .int x4, .int x5, .int x6, .int x7] [.int x6] (mk (zDm D) ct)) (k2 : ¬ (nI 1) ≤ x7 → RUN X C 129 Q 98 [.ref 33, .ref a1, .int x2, .int x3, .int x4, .int x5, .int x6, .int x7] [.int x6] (mk (zDm D) ct)) : RUN X C 129 Q 90 [.ref 33, .ref a1, .int x2, .int x3, .int x4, .int x5, .int x6, .int x7] [] (mk (zDm D) ct) :=
  s_iload c129_90 rfl <|
  s_iload c129_92 rfl <|
  s_const c129_94 zcI_1 <|
  s_icge c129_95 k1 k2
theorem b129_98 {a1 n1 : Nat} (ha1 : zsh (zDm D) a1 = (10, n1)) {x2 : Int32} {x3 : Int32} {x4 : Int32} {x5 : Int32} {x6 : Int32} {x7 : Int32} {xs0 : Int32} (hq : Q (some (.int (xs0 * (nI 1)))) (mk (zDm D) ct)) : RUN X C 129 Q 98 [.ref 33, .ref a1, .int x2, .int x3, .int x4, .int x5, .int x6, .int x7] [.int xs0] (mk (zDm D) ct) :=
  s_const c129_98 zcI_1 <|
  s_goto c129_99 <|
  s_imul c129_104 <|
  s_iret c129_105 (xrtI rfl) hq
theorem b129_102 {a1 n1 : Nat} (ha1 : zsh (zDm D) a1 = (10, n1)) {x2 : Int32} {x3 : Int32} {x4 : Int32} {x5 : Int32} {x6 : Int32} {x7 : Int32} {xs0 : Int32} (hq : Q (some (.int (xs0 * x7))) (mk (zDm D) ct)) : RUN X C 129 Q 102 [.ref 33, .ref a1, .int x2, .int x3, .int x4, .int x5, .int x6, .int x7] [.int xs0] (mk (zDm D) ct) :=
  s_iload c129_102 rfl <|
  s_imul c129_104 <|
  s_iret c129_105 (xrtI rfl) hq
-- ('PaintedTownModel', 'sizeOf', '(I)I')
theorem b130_0 {x0 : Int32} (kk : xsw [52, 44, 46, 48, 52, 52, 48, 50] (x0.toInt - 0) fun t => RUN X C 130 Q t [.int x0] [] (mk (zDm D) ct)) : RUN X C 130 Q 0 [.int x0] [] (mk (zDm D) ct) :=
  s_iload_n c130_0 rfl <|
  s_switch c130_1 kk
theorem b130_44 {x0 : Int32} (hq : Q (some (.int (nI 0))) (mk (zDm D) ct)) : RUN X C 130 Q 44 [.int x0] [] (mk (zDm D) ct) :=
  s_const c130_44 zcI_0 <|
  s_iret c130_45 (xrtI rfl) hq
theorem b130_46 {x0 : Int32} (hq : Q (some (.int (nI 4))) (mk (zDm D) ct)) : RUN X C 130 Q 46 [.int x0] [] (mk (zDm D) ct) :=
  s_const c130_46 zcI_4 <|
  s_iret c130_47 (xrtI rfl) hq
theorem b130_48 {x0 : Int32} (hq : Q (some (.int (nI 3))) (mk (zDm D) ct)) : RUN X C 130 Q 48 [.int x0] [] (mk (zDm D) ct) :=
  s_const c130_48 zcI_3 <|
  s_iret c130_49 (xrtI rfl) hq
theorem b130_50 {x0 : Int32} (hq : Q (some (.int (nI 1))) (mk (zDm D) ct)) : RUN X C 130 Q 50 [.int x0] [] (mk (zDm D) ct) :=
  s_const c130_50 zcI_1 <|
  s_iret c130_51 (xrtI rfl) hq
theorem b130_52 {x0 : Int32} (hq : Q (some (.int (nI 2))) (mk (zDm D) ct)) : RUN X C 130 Q 52 [.int x0] [] (mk (zDm D) ct) :=
  s_const c130_52 zcI_2 <|
  s_iret c130_53 (xrtI rfl) hq
-- ('PaintedTownModel', 'abs', '(I)I')
theorem b131_0 {x0 : Int32} (k1 : (nI 0) ≤ x0 → RUN X C 131 Q 9 [.int x0] [] (mk (zDm D) ct)) (k2 : ¬ (nI 0) ≤ x0 → RUN X C 131 Q 4 [.int x0] [] (mk (zDm D) ct)) : RUN X C 131 Q 0 [.int x0] [] (mk (zDm D) ct) :=
  s_iload_n c131_0 rfl <|
  s_ifge c131_1 k1 k2
theorem b131_4 {x0 : Int32} (hq : Q (some (.int (-x0))) (mk (zDm D) ct)) : RUN X C 131 Q 4 [.int x0] [] (mk (zDm D) ct) :=
  s_iload_n c131_4 rfl <|
  s_ineg c131_5 <|
  s_goto c131_6 <|
  s_iret c131_10 (xrtI rfl) hq
theorem b131_9 {x0 : Int32} (hq : Q (some (.int x0)) (mk (zDm D) ct)) : RUN X C 131 Q 9 [.int x0] [] (mk (zDm D) ct) :=
  s_iload_n c131_9 rfl <|
  s_iret c131_10 (xrtI rfl) hq
-- ('PaintedTownModel', 'fine', '(I)I')
theorem b132_0 {x1 : Int32} (k1 : x1 = (nI 0) → RUN X C 132 Q 4 [.ref 33, .int x1] [] (mk (zDm D) ct)) (k2 : ¬ x1 = (nI 0) → RUN X C 132 Q 15 [.ref 33, .int x1] [] (mk (zDm D) ct)) : RUN X C 132 Q 0 [.ref 33, .int x1] [] (mk (zDm D) ct) :=
  s_iload_n c132_0 rfl <|
  s_ifne c132_1 k1 k2
theorem b132_4 {x1 : Int32} {D1 : zD} {ct1 : zM} {v1 : Int32} (he : C 133 [.ref 33, .ref 36] (mk (zDm D) ct) (some (.int v1)) (mk D1 ct1)) (kk : RUN X C 132 Q 12 [.ref 33, .int x1] [.int v1] (mk D1 ct1)) : RUN X C 132 Q 4 [.ref 33, .int x1] [] (mk (zDm D) ct) :=
  s_aload_n c132_4 rfl <|
  s_aload_n c132_5 rfl <|
  s_getf (ct := ct) c132_6 rfl (by decide) rfl <|
  s_callv (args := [.ref 36]) (r := []) c132_9 rfl rfl (Nat.le_of_ble_eq_true rfl) rfl ⟨rfl, by decide⟩ he kk
theorem b132_12 {x1 : Int32} {xs0 : Int32} (hq : Q (some (.int xs0)) (mk (zDm D) ct)) : RUN X C 132 Q 12 [.ref 33, .int x1] [.int xs0] (mk (zDm D) ct) :=
  s_goto c132_12 <|
  s_iret c132_52 (xrtI rfl) hq
theorem b132_15 {x1 : Int32} (k1 : x1 = (nI 1) → RUN X C 132 Q 20 [.ref 33, .int x1] [] (mk (zDm D) ct)) (k2 : ¬ x1 = (nI 1) → RUN X C 132 Q 39 [.ref 33, .int x1] [] (mk (zDm D) ct)) : RUN X C 132 Q 15 [.ref 33, .int x1] [] (mk (zDm D) ct) :=
  s_iload_n c132_15 rfl <|
  s_const c132_16 zcI_1 <|
  s_icne c132_17 k1 k2
theorem b132_20 {x1 : Int32} {D1 : zD} {ct1 : zM} {v1 : Int32} (he : C 134 [.ref 33, .ref 36] (mk (zDm D) ct) (some (.int v1)) (mk D1 ct1)) (kk : RUN X C 132 Q 28 [.ref 33, .int x1] [.int v1] (mk D1 ct1)) : RUN X C 132 Q 20 [.ref 33, .int x1] [] (mk (zDm D) ct) :=
  s_aload_n c132_20 rfl <|
  s_aload_n c132_21 rfl <|
  s_getf (ct := ct) c132_22 rfl (by decide) rfl <|
  s_callv (args := [.ref 36]) (r := []) c132_25 rfl rfl (Nat.le_of_ble_eq_true rfl) rfl ⟨rfl, by decide⟩ he kk
theorem b132_28 {x1 : Int32} {xs0 : Int32} (k1 : xs0 = (nI 0) → RUN X C 132 Q 35 [.ref 33, .int x1] [] (mk (zDm D) ct)) (k2 : ¬ xs0 = (nI 0) → RUN X C 132 Q 31 [.ref 33, .int x1] [] (mk (zDm D) ct)) : RUN X C 132 Q 28 [.ref 33, .int x1] [.int xs0] (mk (zDm D) ct) :=
  s_ifeq c132_28 k1 k2
theorem b132_31 {x1 : Int32} (hq : Q (some (.int (nI 1))) (mk (zDm D) ct)) : RUN X C 132 Q 31 [.ref 33, .int x1] [] (mk (zDm D) ct) :=
  s_const c132_31 zcI_1 <|
  s_goto c132_32 <|
  s_iret c132_52 (xrtI rfl) hq
theorem b132_35 {x1 : Int32} (hq : Q (some (.int (nI 0))) (mk (zDm D) ct)) : RUN X C 132 Q 35 [.ref 33, .int x1] [] (mk (zDm D) ct) :=
  s_const c132_35 zcI_0 <|
  s_goto c132_36 <|
  s_iret c132_52 (xrtI rfl) hq
theorem b132_39 {x1 : Int32} (k1 : x1 = (nI 2) → RUN X C 132 Q 44 [.ref 33, .int x1] [] (mk (zDm D) ct)) (k2 : ¬ x1 = (nI 2) → RUN X C 132 Q 51 [.ref 33, .int x1] [] (mk (zDm D) ct)) : RUN X C 132 Q 39 [.ref 33, .int x1] [] (mk (zDm D) ct) :=
  s_iload_n c132_39 rfl <|
  s_const c132_40 zcI_2 <|
  s_icne c132_41 k1 k2
theorem b132_44 {x1 : Int32} {D1 : zD} {ct1 : zM} {v1 : Int32} (he : C 135 [.ref 33] (mk (zDm D) ct) (some (.int v1)) (mk D1 ct1)) (kk : RUN X C 132 Q 48 [.ref 33, .int x1] [.int v1] (mk D1 ct1)) : RUN X C 132 Q 44 [.ref 33, .int x1] [] (mk (zDm D) ct) :=
  s_aload_n c132_44 rfl <|
  s_callv (args := []) (r := []) c132_45 rfl rfl (Nat.le_of_ble_eq_true rfl) rfl ⟨rfl, by decide⟩ he kk
theorem b132_48 {x1 : Int32} {xs0 : Int32} (hq : Q (some (.int xs0)) (mk (zDm D) ct)) : RUN X C 132 Q 48 [.ref 33, .int x1] [.int xs0] (mk (zDm D) ct) :=
  s_goto c132_48 <|
  s_iret c132_52 (xrtI rfl) hq
theorem b132_51 {x1 : Int32} (hq : Q (some (.int (-1))) (mk (zDm D) ct)) : RUN X C 132 Q 51 [.ref 33, .int x1] [] (mk (zDm D) ct) :=
  s_const c132_51 zcI_m1 <|
  s_iret c132_52 (xrtI rfl) hq
-- ('PaintedTownModel', 'fineOf', '([I)I')
theorem b133_0 {a1 n1 : Nat} (ha1 : zsh (zDm D) a1 = (10, n1)) {l2 : Value} {l3 : Value} {l4 : Value} {l5 : Value} (kk : RUN X C 133 Q 7 [.ref 33, .ref a1, .int (nI 0), .int (nI 0), .int (nI 0), l5] [] (mk (zDm D) ct)) : RUN X C 133 Q 0 [.ref 33, .ref a1, l2, l3, l4, l5] [] (mk (zDm D) ct) :=
  s_const c133_0 zcI_0 <|
  s_istore_n c133_1 (Nat.le_of_ble_eq_true rfl) True.intro <|
  s_const c133_2 zcI_0 <|
  s_istore_n c133_3 (Nat.le_of_ble_eq_true rfl) True.intro <|
  s_const c133_4 zcI_0 <|
  s_istore c133_5 (Nat.le_of_ble_eq_true rfl) True.intro <|
  kk
theorem b133_7 {a1 n1 : Nat} (ha1 : zsh (zDm D) a1 = (10, n1)) {x2 : Int32} {x3 : Int32} {x4 : Int32} {l5 : Value} {D1 : zD} {ct1 : zM} {v1 : Int32} (he : C 122 [.ref 33] (mk (zDm D) ct) (some (.int v1)) (mk D1 ct1)) (kk : RUN X C 133 Q 13 [.ref 33, .ref a1, .int x2, .int x3, .int x4, l5] [.int v1, .int x4] (mk D1 ct1)) : RUN X C 133 Q 7 [.ref 33, .ref a1, .int x2, .int x3, .int x4, l5] [] (mk (zDm D) ct) :=
  s_iload c133_7 rfl <|
  s_aload_n c133_9 rfl <|
  s_callv (args := []) (r := [.int x4]) c133_10 rfl rfl (Nat.le_of_ble_eq_true rfl) rfl ⟨rfl, by decide⟩ he kk
theorem b133_13 {a1 n1 : Nat} (ha1 : zsh (zDm D) a1 = (10, n1)) {x2 : Int32} {x3 : Int32} {x4 : Int32} {l5 : Value} {xs0 : Int32} {xs1 : Int32} (k1 : xs1 ≤ xs0 → RUN X C 133 Q 61 [.ref 33, .ref a1, .int x2, .int x3, .int x4, l5] [] (mk (zDm D) ct)) (k2 : ¬ xs1 ≤ xs0 → RUN X C 133 Q 16 [.ref 33, .ref a1, .int x2, .int x3, .int x4, l5] [] (mk (zDm D) ct)) : RUN X C 133 Q 13 [.ref 33, .ref a1, .int x2, .int x3, .int x4, l5] [.int xs1, .int xs0] (mk (zDm D) ct) :=
  s_icge c133_13 k1 k2
theorem b133_16 {a1 n1 : Nat} (ha1 : zsh (zDm D) a1 = (10, n1)) {x2 : Int32} {x3 : Int32} {x4 : Int32} {l5 : Value} {D1 : zD} {ct1 : zM} {v1 : Int32} (he : C 129 [.ref 33, .ref a1, .int x4] (mk (zDm D) ct) (some (.int v1)) (mk D1 ct1)) (kk : RUN X C 133 Q 23 [.ref 33, .ref a1, .int x2, .int x3, .int x4, l5] [.int v1] (mk D1 ct1)) : RUN X C 133 Q 16 [.ref 33, .ref a1, .int x2, .int x3, .int x4, l5] [] (mk (zDm D) ct) :=
  s_aload_n c133_16 rfl <|
  s_aload_n c133_17 rfl <|
  s_iload c133_18 rfl <|
  s_callv (args := [.ref a1, .int x4]) (r := []) c133_20 rfl rfl (Nat.le_of_ble_eq_true rfl) rfl ⟨rfl, by decide⟩ he kk
theorem b133_23 {a1 n1 : Nat} (ha1 : zsh (zDm D) a1 = (10, n1)) {x2 : Int32} {x3 : Int32} {x4 : Int32} {l5 : Value} {xs0 : Int32} (k1 : (nI 4) ≤ xs0 → RUN X C 133 Q 37 [.ref 33, .ref a1, .int x2, .int x3, .int x4, .int xs0] [.int x2] (mk (zDm D) ct)) (k2 : ¬ (nI 4) ≤ xs0 → RUN X C 133 Q 32 [.ref 33, .ref a1, .int x2, .int x3, .int x4, .int xs0] [.int x2] (mk (zDm D) ct)) : RUN X C 133 Q 23 [.ref 33, .ref a1, .int x2, .int x3, .int x4, l5] [.int xs0] (mk (zDm D) ct) :=
  s_istore c133_23 (Nat.le_of_ble_eq_true rfl) True.intro <|
  s_iload_n c133_25 rfl <|
  s_iload c133_26 rfl <|
  s_const c133_28 zcI_4 <|
  s_icge c133_29 k1 k2
theorem b133_32 {a1 n1 : Nat} (ha1 : zsh (zDm D) a1 = (10, n1)) {x2 : Int32} {x3 : Int32} {x4 : Int32} {x5 : Int32} {xs0 : Int32} (k1 : (nI 4) ≤ x5 → RUN X C 133 Q 51 [.ref 33, .ref a1, .int (xs0 + x5), .int x3, .int x4, .int x5] [.int x3] (mk (zDm D) ct)) (k2 : ¬ (nI 4) ≤ x5 → RUN X C 133 Q 47 [.ref 33, .ref a1, .int (xs0 + x5), .int x3, .int x4, .int x5] [.int x3] (mk (zDm D) ct)) : RUN X C 133 Q 32 [.ref 33, .ref a1, .int x2, .int x3, .int x4, .int x5] [.int xs0] (mk (zDm D) ct) :=
  s_iload c133_32 rfl <|
  s_goto c133_34 <|
  s_iadd c133_38 <|
  s_istore_n c133_39 (Nat.le_of_ble_eq_true rfl) True.intro <|
  s_iload_n c133_40 rfl <|
  s_iload c133_41 rfl <|
  s_const c133_43 zcI_4 <|
  s_icge c133_44 k1 k2
theorem b133_37 {a1 n1 : Nat} (ha1 : zsh (zDm D) a1 = (10, n1)) {x2 : Int32} {x3 : Int32} {x4 : Int32} {x5 : Int32} {xs0 : Int32} (k1 : (nI 4) ≤ x5 → RUN X C 133 Q 51 [.ref 33, .ref a1, .int (xs0 + (nI 0)), .int x3, .int x4, .int x5] [.int x3] (mk (zDm D) ct)) (k2 : ¬ (nI 4) ≤ x5 → RUN X C 133 Q 47 [.ref 33, .ref a1, .int (xs0 + (nI 0)), .int x3, .int x4, .int x5] [.int x3] (mk (zDm D) ct)) : RUN X C 133 Q 37 [.ref 33, .ref a1, .int x2, .int x3, .int x4, .int x5] [.int xs0] (mk (zDm D) ct) :=
  s_const c133_37 zcI_0 <|
  s_iadd c133_38 <|
  s_istore_n c133_39 (Nat.le_of_ble_eq_true rfl) True.intro <|
  s_iload_n c133_40 rfl <|
  s_iload c133_41 rfl <|
  s_const c133_43 zcI_4 <|
  s_icge c133_44 k1 k2
theorem b133_47 {a1 n1 : Nat} (ha1 : zsh (zDm D) a1 = (10, n1)) {x2 : Int32} {x3 : Int32} {x4 : Int32} {x5 : Int32} {xs0 : Int32} (kk : RUN X C 133 Q 7 [.ref 33, .ref a1, .int x2, .int (xs0 + (nI 0)), .int (x4 + nI 1), .int x5] [] (mk (zDm D) ct)) : RUN X C 133 Q 47 [.ref 33, .ref a1, .int x2, .int x3, .int x4, .int x5] [.int xs0] (mk (zDm D) ct) :=
  s_const c133_47 zcI_0 <|
  s_goto c133_48 <|
  s_iadd c133_53 <|
  s_istore_n c133_54 (Nat.le_of_ble_eq_true rfl) True.intro <|
  s_iinc c133_55 rfl True.intro zcI_1 <|
  s_goto c133_58 <|
  kk
theorem b133_51 {a1 n1 : Nat} (ha1 : zsh (zDm D) a1 = (10, n1)) {x2 : Int32} {x3 : Int32} {x4 : Int32} {x5 : Int32} {xs0 : Int32} (kk : RUN X C 133 Q 7 [.ref 33, .ref a1, .int x2, .int (xs0 + x5), .int (x4 + nI 1), .int x5] [] (mk (zDm D) ct)) : RUN X C 133 Q 51 [.ref 33, .ref a1, .int x2, .int x3, .int x4, .int x5] [.int xs0] (mk (zDm D) ct) :=
  s_iload c133_51 rfl <|
  s_iadd c133_53 <|
  s_istore_n c133_54 (Nat.le_of_ble_eq_true rfl) True.intro <|
  s_iinc c133_55 rfl True.intro zcI_1 <|
  s_goto c133_58 <|
  kk
theorem b133_61 {a1 n1 : Nat} (ha1 : zsh (zDm D) a1 = (10, n1)) {x2 : Int32} {x3 : Int32} {x4 : Int32} {l5 : Value} (hq : Q (some (.int (x3 + (x2 / (nI 3))))) (mk (zDm D) ct)) : RUN X C 133 Q 61 [.ref 33, .ref a1, .int x2, .int x3, .int x4, l5] [] (mk (zDm D) ct) :=
  s_iload_n c133_61 rfl <|
  s_iload_n c133_62 rfl <|
  s_const c133_63 zcI_3 <|
  s_idiv c133_64 (by decide) <|
  s_iadd c133_65 <|
  s_iret c133_66 (xrtI rfl) hq
-- ('PaintedTownModel', 'passes', '([I)Z')
theorem b134_0 {a1 n1 : Nat} (ha1 : zsh (zDm D) a1 = (10, n1)) {D1 : zD} {ct1 : zM} {v1 : Int32} (he : C 133 [.ref 33, .ref a1] (mk (zDm D) ct) (some (.int v1)) (mk D1 ct1)) (kk : RUN X C 134 Q 5 [.ref 33, .ref a1] [.int v1] (mk D1 ct1)) : RUN X C 134 Q 0 [.ref 33, .ref a1] [] (mk (zDm D) ct) :=
  s_aload_n c134_0 rfl <|
  s_aload_n c134_1 rfl <|
  s_callv (args := [.ref a1]) (r := []) c134_2 rfl rfl (Nat.le_of_ble_eq_true rfl) rfl ⟨rfl, by decide⟩ he kk
theorem b134_5 {a1 n1 : Nat} (ha1 : zsh (zDm D) a1 = (10, n1)) {xs0 : Int32} (k1 : (ct 34 2) < xs0 → RUN X C 134 Q 18 [.ref 33, .ref a1] [] (mk (zDm D) ct)) (k2 : ¬ (ct 34 2) < xs0 → RUN X C 134 Q 14 [.ref 33, .ref a1] [] (mk (zDm D) ct)) : RUN X C 134 Q 5 [.ref 33, .ref a1] [.int xs0] (mk (zDm D) ct) :=
  s_aload_n c134_5 rfl <|
  s_getf (ct := ct) c134_6 rfl (by decide) rfl <|
  s_const c134_9 zcI_2 <|
  s_iald (ct := ct) c134_10 rfl (zix_nI (by decide) (by decide)) <|
  s_icgt c134_11 k1 k2
theorem b134_14 {a1 n1 : Nat} (ha1 : zsh (zDm D) a1 = (10, n1)) (hq : Q (some (.int (nI 1))) (mk (zDm D) ct)) : RUN X C 134 Q 14 [.ref 33, .ref a1] [] (mk (zDm D) ct) :=
  s_const c134_14 zcI_1 <|
  s_goto c134_15 <|
  s_iret c134_19 (xrtZ rfl (Or.inr rfl)) hq
theorem b134_18 {a1 n1 : Nat} (ha1 : zsh (zDm D) a1 = (10, n1)) (hq : Q (some (.int (nI 0))) (mk (zDm D) ct)) : RUN X C 134 Q 18 [.ref 33, .ref a1] [] (mk (zDm D) ct) :=
  s_const c134_18 zcI_0 <|
  s_iret c134_19 (xrtZ rfl (Or.inl rfl)) hq
-- ('PaintedTownModel', 'wrongs', '()I')
theorem b135_0 {l1 : Value} {l2 : Value} (kk : RUN X C 135 Q 4 [.ref 33, .int (nI 0), .int (nI 0)] [] (mk (zDm D) ct)) : RUN X C 135 Q 0 [.ref 33, l1, l2] [] (mk (zDm D) ct) :=
  s_const c135_0 zcI_0 <|
  s_istore_n c135_1 (Nat.le_of_ble_eq_true rfl) True.intro <|
  s_const c135_2 zcI_0 <|
  s_istore_n c135_3 (Nat.le_of_ble_eq_true rfl) True.intro <|
  kk
theorem b135_4 {x1 : Int32} {x2 : Int32} {D1 : zD} {ct1 : zM} {v1 : Int32} (he : C 122 [.ref 33] (mk (zDm D) ct) (some (.int v1)) (mk D1 ct1)) (kk : RUN X C 135 Q 9 [.ref 33, .int x1, .int x2] [.int v1, .int x2] (mk D1 ct1)) : RUN X C 135 Q 4 [.ref 33, .int x1, .int x2] [] (mk (zDm D) ct) :=
  s_iload_n c135_4 rfl <|
  s_aload_n c135_5 rfl <|
  s_callv (args := []) (r := [.int x2]) c135_6 rfl rfl (Nat.le_of_ble_eq_true rfl) rfl ⟨rfl, by decide⟩ he kk
theorem b135_9 {x1 : Int32} {x2 : Int32} {xs0 : Int32} {xs1 : Int32} (k1 : xs1 ≤ xs0 → RUN X C 135 Q 47 [.ref 33, .int x1, .int x2] [] (mk (zDm D) ct)) (k2 : ¬ xs1 ≤ xs0 → RUN X C 135 Q 12 [.ref 33, .int x1, .int x2] [] (mk (zDm D) ct)) : RUN X C 135 Q 9 [.ref 33, .int x1, .int x2] [.int xs1, .int xs0] (mk (zDm D) ct) :=
  s_icge c135_9 k1 k2
theorem b135_12 {x1 : Int32} {x2 : Int32} {D1 : zD} {ct1 : zM} {v1 : Int32} (he : C 125 [.ref 33, .ref 36, .int x2] (mk (zDm D) ct) (some (.int v1)) (mk D1 ct1)) (kk : RUN X C 135 Q 22 [.ref 33, .int x1, .int x2] [.int v1, .int x1] (mk D1 ct1)) : RUN X C 135 Q 12 [.ref 33, .int x1, .int x2] [] (mk (zDm D) ct) :=
  s_iload_n c135_12 rfl <|
  s_aload_n c135_13 rfl <|
  s_aload_n c135_14 rfl <|
  s_getf (ct := ct) c135_15 rfl (by decide) rfl <|
  s_iload_n c135_18 rfl <|
  s_callv (args := [.ref 36, .int x2]) (r := [.int x1]) c135_19 rfl rfl (Nat.le_of_ble_eq_true rfl) rfl ⟨rfl, by decide⟩ he kk
theorem b135_22 {x1 : Int32} {x2 : Int32} {xs0 : Int32} {xs1 : Int32} {j30 : Nat} (hx30 : zix ((nI 9) + x2) j30 81) (k1 : xs1 = (ct 34 j30) → RUN X C 135 Q 34 [.ref 33, .int x1, .int x2] [.int xs0] (mk (zDm D) ct)) (k2 : ¬ xs1 = (ct 34 j30) → RUN X C 135 Q 38 [.ref 33, .int x1, .int x2] [.int xs0] (mk (zDm D) ct)) : RUN X C 135 Q 22 [.ref 33, .int x1, .int x2] [.int xs1, .int xs0] (mk (zDm D) ct) :=
  s_aload_n c135_22 rfl <|
  s_getf (ct := ct) c135_23 rfl (by decide) rfl <|
  s_bipush c135_26 zcB_9 <|
  s_iload_n c135_28 rfl <|
  s_iadd c135_29 <|
  s_iald (ct := ct) c135_30 rfl hx30 <|
  s_icne c135_31 k1 k2
theorem b135_34 {x1 : Int32} {x2 : Int32} {xs0 : Int32} (kk : RUN X C 135 Q 4 [.ref 33, .int (xs0 + (nI 0)), .int (x2 + nI 1)] [] (mk (zDm D) ct)) : RUN X C 135 Q 34 [.ref 33, .int x1, .int x2] [.int xs0] (mk (zDm D) ct) :=
  s_const c135_34 zcI_0 <|
  s_goto c135_35 <|
  s_iadd c135_39 <|
  s_istore_n c135_40 (Nat.le_of_ble_eq_true rfl) True.intro <|
  s_iinc c135_41 rfl True.intro zcI_1 <|
  s_goto c135_44 <|
  kk
theorem b135_38 {x1 : Int32} {x2 : Int32} {xs0 : Int32} (kk : RUN X C 135 Q 4 [.ref 33, .int (xs0 + (nI 1)), .int (x2 + nI 1)] [] (mk (zDm D) ct)) : RUN X C 135 Q 38 [.ref 33, .int x1, .int x2] [.int xs0] (mk (zDm D) ct) :=
  s_const c135_38 zcI_1 <|
  s_iadd c135_39 <|
  s_istore_n c135_40 (Nat.le_of_ble_eq_true rfl) True.intro <|
  s_iinc c135_41 rfl True.intro zcI_1 <|
  s_goto c135_44 <|
  kk
theorem b135_47 {x1 : Int32} {x2 : Int32} (hq : Q (some (.int x1)) (mk (zDm D) ct)) : RUN X C 135 Q 47 [.ref 33, .int x1, .int x2] [] (mk (zDm D) ct) :=
  s_iload_n c135_47 rfl <|
  s_iret c135_48 (xrtI rfl) hq
-- ('PaintedTownModel', 'mend', '(I)I')
theorem b136_0 {x1 : Int32} {l2 : Value} {D1 : zD} {ct1 : zM} {v1 : Int32} (he : C 124 [.ref 33, .int x1] (mk (zDm D) ct) (some (.int v1)) (mk D1 ct1)) (kk : RUN X C 136 Q 5 [.ref 33, .int x1, l2] [.int v1] (mk D1 ct1)) : RUN X C 136 Q 0 [.ref 33, .int x1, l2] [] (mk (zDm D) ct) :=
  s_aload_n c136_0 rfl <|
  s_iload_n c136_1 rfl <|
  s_callv (args := [.int x1]) (r := []) c136_2 rfl rfl (Nat.le_of_ble_eq_true rfl) rfl ⟨rfl, by decide⟩ he kk
theorem b136_5 {x1 : Int32} {l2 : Value} {xs0 : Int32} (k1 : xs0 = (nI 0) → RUN X C 136 Q 8 [.ref 33, .int x1, l2] [] (mk (zDm D) ct)) (k2 : ¬ xs0 = (nI 0) → RUN X C 136 Q 10 [.ref 33, .int x1, l2] [] (mk (zDm D) ct)) : RUN X C 136 Q 5 [.ref 33, .int x1, l2] [.int xs0] (mk (zDm D) ct) :=
  s_ifne c136_5 k1 k2
theorem b136_8 {x1 : Int32} {l2 : Value} (hq : Q (some (.int (-1))) (mk (zDm D) ct)) : RUN X C 136 Q 8 [.ref 33, .int x1, l2] [] (mk (zDm D) ct) :=
  s_const c136_8 zcI_m1 <|
  s_iret c136_9 (xrtI rfl) hq
theorem b136_10 {x1 : Int32} {l2 : Value} {j18 : Nat} (hx18 : zix ((nI 9) + x1) j18 81) {j27 : Nat} (hx27 : zix ((nI 0) + x1) j27 111) (k1 : (ct 36 j27) = (ct 34 j18) → RUN X C 136 Q 32 [.ref 33, .int x1, .int (ct 34 j18)] [] (mk (zDm D) ct)) (k2 : ¬ (ct 36 j27) = (ct 34 j18) → RUN X C 136 Q 35 [.ref 33, .int x1, .int (ct 34 j18)] [] (mk (zDm D) ct)) : RUN X C 136 Q 10 [.ref 33, .int x1, l2] [] (mk (zDm D) ct) :=
  s_aload_n c136_10 rfl <|
  s_getf (ct := ct) c136_11 rfl (by decide) rfl <|
  s_bipush c136_14 zcB_9 <|
  s_iload_n c136_16 rfl <|
  s_iadd c136_17 <|
  s_iald (ct := ct) c136_18 rfl hx18 <|
  s_istore_n c136_19 (Nat.le_of_ble_eq_true rfl) True.intro <|
  s_aload_n c136_20 rfl <|
  s_getf (ct := ct) c136_21 rfl (by decide) rfl <|
  s_const c136_24 zcI_0 <|
  s_iload_n c136_25 rfl <|
  s_iadd c136_26 <|
  s_iald (ct := ct) c136_27 rfl hx27 <|
  s_iload_n c136_28 rfl <|
  s_icne c136_29 k1 k2
theorem b136_32 {x1 : Int32} {x2 : Int32} (hq : Q (some (.int (-2))) (mk (zDm D) ct)) : RUN X C 136 Q 32 [.ref 33, .int x1, .int x2] [] (mk (zDm D) ct) :=
  s_bipush c136_32 zcB_m2 <|
  s_iret c136_34 (xrtI rfl) hq
theorem b136_35 {x1 : Int32} {x2 : Int32} {D1 : zD} {ct1 : zM} (he : C 137 [.ref 33] (mk (zDm D) ct) none (mk D1 ct1)) (kk : RUN X C 136 Q 39 [.ref 33, .int x1, .int x2] [] (mk D1 ct1)) : RUN X C 136 Q 35 [.ref 33, .int x1, .int x2] [] (mk (zDm D) ct) :=
  s_aload_n c136_35 rfl <|
  s_callv (args := []) (r := []) c136_36 rfl rfl (Nat.le_of_ble_eq_true rfl) rfl ⟨rfl, by decide⟩ he kk
theorem b136_39 {x1 : Int32} {x2 : Int32} {D1 : zD} {ct1 : zM} (he : C 138 [.ref 36, .int x1, .int x2] (mk (zDm D) ct) none (mk D1 ct1)) (kk : RUN X C 136 Q 48 [.ref 33, .int x1, .int x2] [] (mk D1 ct1)) : RUN X C 136 Q 39 [.ref 33, .int x1, .int x2] [] (mk (zDm D) ct) :=
  s_aload_n c136_39 rfl <|
  s_getf (ct := ct) c136_40 rfl (by decide) rfl <|
  s_iload_n c136_43 rfl <|
  s_iload_n c136_44 rfl <|
  s_calls (args := [.ref 36, .int x1, .int x2]) (r := []) c136_45 rfl rfl (Nat.le_of_ble_eq_true rfl) he kk
theorem b136_48 {x1 : Int32} {x2 : Int32} {D1 : zD} {ct1 : zM} {v1 : Int32} (he : C 130 [.int x2] (mk (zDm D) ct) (some (.int v1)) (mk D1 ct1)) (kk : RUN X C 136 Q 52 [.ref 33, .int x1, .int x2] [.int v1] (mk D1 ct1)) : RUN X C 136 Q 48 [.ref 33, .int x1, .int x2] [] (mk (zDm D) ct) :=
  s_iload_n c136_48 rfl <|
  s_calls (args := [.int x2]) (r := []) c136_49 rfl rfl (Nat.le_of_ble_eq_true rfl) he kk
theorem b136_52 {x1 : Int32} {x2 : Int32} {xs0 : Int32} (hq : Q (some (.int xs0)) (mk (zDm D) ct)) : RUN X C 136 Q 52 [.ref 33, .int x1, .int x2] [.int xs0] (mk (zDm D) ct) :=
  s_iret c136_52 (xrtI rfl) hq
-- ('PaintedTownModel', 'remember', '()V')
theorem b137_0 {l1 : Value} (k1 : (ct 33 5) = (nI 8) → RUN X C 137 Q 9 [.ref 33, l1] [] (mk (zDm D) ct)) (k2 : ¬ (ct 33 5) = (nI 8) → RUN X C 137 Q 49 [.ref 33, l1] [] (mk (zDm D) ct)) : RUN X C 137 Q 0 [.ref 33, l1] [] (mk (zDm D) ct) :=
  s_aload_n c137_0 rfl <|
  s_getf (ct := ct) c137_1 rfl (by decide) rfl <|
  s_bipush c137_4 zcB_8 <|
  s_icne c137_6 k1 k2
theorem b137_9 {l1 : Value} (kk : RUN X C 137 Q 11 [.ref 33, .int (nI 0)] [] (mk (zDm D) ct)) : RUN X C 137 Q 9 [.ref 33, l1] [] (mk (zDm D) ct) :=
  s_const c137_9 zcI_0 <|
  s_istore_n c137_10 (Nat.le_of_ble_eq_true rfl) True.intro <|
  kk
theorem b137_11 {x1 : Int32} (k1 : (nI 777) ≤ x1 → RUN X C 137 Q 39 [.ref 33, .int x1] [] (mk (zDm D) ct)) (k2 : ¬ (nI 777) ≤ x1 → RUN X C 137 Q 18 [.ref 33, .int x1] [] (mk (zDm D) ct)) : RUN X C 137 Q 11 [.ref 33, .int x1] [] (mk (zDm D) ct) :=
  s_iload_n c137_11 rfl <|
  s_sipush c137_12 zcS_777 <|
  s_icge c137_15 k1 k2
theorem b137_18 {x1 : Int32} {j31 : Nat} (hx31 : zix (x1 + (nI 111)) j31 888) {j32 : Nat} (hx32 : zix x1 j32 888) (kk : RUN X C 137 Q 11 [.ref 33, .int (x1 + nI 1)] [] (mk (zDm D) (u2 ct 38 j32 (ct 38 j31)))) : RUN X C 137 Q 18 [.ref 33, .int x1] [] (mk (zDm D) ct) :=
  s_aload_n c137_18 rfl <|
  s_getf (ct := ct) c137_19 rfl (by decide) rfl <|
  s_iload_n c137_22 rfl <|
  s_aload_n c137_23 rfl <|
  s_getf (ct := ct) c137_24 rfl (by decide) rfl <|
  s_iload_n c137_27 rfl <|
  s_bipush c137_28 zcB_111 <|
  s_iadd c137_30 <|
  s_iald (ct := ct) c137_31 rfl hx31 <|
  s_iast (ct := ct) c137_32 rfl hx32 <|
  s_iinc c137_33 rfl True.intro zcI_1 <|
  s_goto c137_36 <|
  kk
theorem b137_39 {x1 : Int32} {D1 : zD} {ct1 : zM} (he : C 106 [.ref 36, .int (nI 0), .ref 38, .int ((nI 111) * ((ct 33 5) - (nI 1))), .int (nI 111)] (mk (zDm D) (u2 ct 33 5 ((ct 33 5) - (nI 1)))) none (mk D1 ct1)) (kk : RUN X C 137 Q 70 [.ref 33, .int x1] [] (mk D1 ct1)) : RUN X C 137 Q 39 [.ref 33, .int x1] [] (mk (zDm D) ct) :=
  s_aload_n c137_39 rfl <|
  s_dup c137_40 rfl <|
  s_getf (ct := ct) c137_41 rfl (by decide) rfl <|
  s_const c137_44 zcI_1 <|
  s_isub c137_45 <|
  s_putf (ct := ct) c137_46 rfl (by decide) zint_7_5 xfit_7_5 <|
  s_aload_n c137_49 rfl <|
  s_getf (ct := (u2 ct 33 5 ((ct 33 5) - (nI 1)))) c137_50 rfl (by decide) rfl <|
  s_const c137_53 zcI_0 <|
  s_aload_n c137_54 rfl <|
  s_getf (ct := (u2 ct 33 5 ((ct 33 5) - (nI 1)))) c137_55 rfl (by decide) rfl <|
  s_bipush c137_58 zcB_111 <|
  s_aload_n c137_60 rfl <|
  s_getf (ct := (u2 ct 33 5 ((ct 33 5) - (nI 1)))) c137_61 rfl (by decide) rfl <|
  s_imul c137_64 <|
  s_bipush c137_65 zcB_111 <|
  s_calls (args := [.ref 36, .int (nI 0), .ref 38, .int ((nI 111) * ((ct 33 5) - (nI 1))), .int (nI 111)]) (r := []) c137_67 rfl rfl (Nat.le_of_ble_eq_true rfl) he kk
theorem b137_49 {l1 : Value} {D1 : zD} {ct1 : zM} (he : C 106 [.ref 36, .int (nI 0), .ref 38, .int ((nI 111) * (ct 33 5)), .int (nI 111)] (mk (zDm D) ct) none (mk D1 ct1)) (kk : RUN X C 137 Q 70 [.ref 33, l1] [] (mk D1 ct1)) : RUN X C 137 Q 49 [.ref 33, l1] [] (mk (zDm D) ct) :=
  s_aload_n c137_49 rfl <|
  s_getf (ct := ct) c137_50 rfl (by decide) rfl <|
  s_const c137_53 zcI_0 <|
  s_aload_n c137_54 rfl <|
  s_getf (ct := ct) c137_55 rfl (by decide) rfl <|
  s_bipush c137_58 zcB_111 <|
  s_aload_n c137_60 rfl <|
  s_getf (ct := ct) c137_61 rfl (by decide) rfl <|
  s_imul c137_64 <|
  s_bipush c137_65 zcB_111 <|
  s_calls (args := [.ref 36, .int (nI 0), .ref 38, .int ((nI 111) * (ct 33 5)), .int (nI 111)]) (r := []) c137_67 rfl rfl (Nat.le_of_ble_eq_true rfl) he kk
theorem b137_70 {l1 : Value} (hq : Q none (mk (zDm D) (u2 ct 33 5 ((ct 33 5) + (nI 1))))) : RUN X C 137 Q 70 [.ref 33, l1] [] (mk (zDm D) ct) :=
  s_aload_n c137_70 rfl <|
  s_dup c137_71 rfl <|
  s_getf (ct := ct) c137_72 rfl (by decide) rfl <|
  s_const c137_75 zcI_1 <|
  s_iadd c137_76 <|
  s_putf (ct := ct) c137_77 rfl (by decide) zint_7_5 xfit_7_5 <|
  s_ret c137_80 rfl hq
-- ('PaintedTownModel', 'puts', '([III)V')
theorem b138_0 {a0 n0 : Nat} (ha0 : zsh (zDm D) a0 = (10, n0)) {x1 : Int32} {x2 : Int32} {j5 : Nat} (hx5 : zix ((nI 0) + x1) j5 n0) {j12 : Nat} (hx12 : zix ((nI 36) + x1) j12 n0) (hq : Q none (mk (zDm D) (u2 (u2 ct a0 j5 x2) a0 j12 (nI 0)))) : RUN X C 138 Q 0 [.ref a0, .int x1, .int x2] [] (mk (zDm D) ct) :=
  s_aload_n c138_0 rfl <|
  s_const c138_1 zcI_0 <|
  s_iload_n c138_2 rfl <|
  s_iadd c138_3 <|
  s_iload_n c138_4 rfl <|
  s_iast (ct := ct) c138_5 ha0 hx5 <|
  s_aload_n c138_6 rfl <|
  s_bipush c138_7 zcB_36 <|
  s_iload_n c138_9 rfl <|
  s_iadd c138_10 <|
  s_const c138_11 zcI_0 <|
  s_iast (ct := (u2 ct a0 j5 x2)) c138_12 ha0 hx12 <|
  s_ret c138_13 rfl hq
-- ('PaintedTownModel', 'put', '(II)I')
theorem b139_0 {x1 : Int32} {x2 : Int32} {l3 : Value} {D1 : zD} {ct1 : zM} {v1 : Int32} (he : C 124 [.ref 33, .int x1] (mk (zDm D) ct) (some (.int v1)) (mk D1 ct1)) (kk : RUN X C 139 Q 5 [.ref 33, .int x1, .int x2, l3] [.int v1] (mk D1 ct1)) : RUN X C 139 Q 0 [.ref 33, .int x1, .int x2, l3] [] (mk (zDm D) ct) :=
  s_aload_n c139_0 rfl <|
  s_iload_n c139_1 rfl <|
  s_callv (args := [.int x1]) (r := []) c139_2 rfl rfl (Nat.le_of_ble_eq_true rfl) rfl ⟨rfl, by decide⟩ he kk
theorem b139_5 {x1 : Int32} {x2 : Int32} {l3 : Value} {xs0 : Int32} (k1 : xs0 = (nI 0) → RUN X C 139 Q 20 [.ref 33, .int x1, .int x2, l3] [] (mk (zDm D) ct)) (k2 : ¬ xs0 = (nI 0) → RUN X C 139 Q 8 [.ref 33, .int x1, .int x2, l3] [] (mk (zDm D) ct)) : RUN X C 139 Q 5 [.ref 33, .int x1, .int x2, l3] [.int xs0] (mk (zDm D) ct) :=
  s_ifeq c139_5 k1 k2
theorem b139_8 {x1 : Int32} {x2 : Int32} {l3 : Value} {D1 : zD} {ct1 : zM} {v1 : Int32} (he : C 108 [.long (x2.toInt64), .long (lN 0), .long (lN 7)] (mk (zDm D) ct) (some (.int v1)) (mk D1 ct1)) (kk : RUN X C 139 Q 17 [.ref 33, .int x1, .int x2, l3] [.int v1] (mk D1 ct1)) : RUN X C 139 Q 8 [.ref 33, .int x1, .int x2, l3] [] (mk (zDm D) ct) :=
  s_iload_n c139_8 rfl <|
  s_i2l c139_9 <|
  s_lconst c139_10 <|
  s_ldc2 c139_11 <|
  s_calls (args := [.long (x2.toInt64), .long (lN 0), .long (lN 7)]) (r := []) c139_14 rfl rfl (Nat.le_of_ble_eq_true rfl) he kk
theorem b139_17 {x1 : Int32} {x2 : Int32} {l3 : Value} {xs0 : Int32} (k1 : xs0 = (nI 0) → RUN X C 139 Q 20 [.ref 33, .int x1, .int x2, l3] [] (mk (zDm D) ct)) (k2 : ¬ xs0 = (nI 0) → RUN X C 139 Q 22 [.ref 33, .int x1, .int x2, l3] [] (mk (zDm D) ct)) : RUN X C 139 Q 17 [.ref 33, .int x1, .int x2, l3] [.int xs0] (mk (zDm D) ct) :=
  s_ifne c139_17 k1 k2
theorem b139_20 {x1 : Int32} {x2 : Int32} {l3 : Value} (hq : Q (some (.int (-1))) (mk (zDm D) ct)) : RUN X C 139 Q 20 [.ref 33, .int x1, .int x2, l3] [] (mk (zDm D) ct) :=
  s_const c139_20 zcI_m1 <|
  s_iret c139_21 (xrtI rfl) hq
theorem b139_22 {x1 : Int32} {x2 : Int32} {l3 : Value} {j29 : Nat} (hx29 : zix ((nI 0) + x1) j29 111) (k1 : (ct 36 j29) = x2 → RUN X C 139 Q 36 [.ref 33, .int x1, .int x2, .int (ct 36 j29)] [] (mk (zDm D) ct)) (k2 : ¬ (ct 36 j29) = x2 → RUN X C 139 Q 39 [.ref 33, .int x1, .int x2, .int (ct 36 j29)] [] (mk (zDm D) ct)) : RUN X C 139 Q 22 [.ref 33, .int x1, .int x2, l3] [] (mk (zDm D) ct) :=
  s_aload_n c139_22 rfl <|
  s_getf (ct := ct) c139_23 rfl (by decide) rfl <|
  s_const c139_26 zcI_0 <|
  s_iload_n c139_27 rfl <|
  s_iadd c139_28 <|
  s_iald (ct := ct) c139_29 rfl hx29 <|
  s_istore_n c139_30 (Nat.le_of_ble_eq_true rfl) True.intro <|
  s_iload_n c139_31 rfl <|
  s_iload_n c139_32 rfl <|
  s_icne c139_33 k1 k2
theorem b139_36 {x1 : Int32} {x2 : Int32} {x3 : Int32} (hq : Q (some (.int (-2))) (mk (zDm D) ct)) : RUN X C 139 Q 36 [.ref 33, .int x1, .int x2, .int x3] [] (mk (zDm D) ct) :=
  s_bipush c139_36 zcB_m2 <|
  s_iret c139_38 (xrtI rfl) hq
theorem b139_39 {x1 : Int32} {x2 : Int32} {x3 : Int32} {D1 : zD} {ct1 : zM} (he : C 137 [.ref 33] (mk (zDm D) ct) none (mk D1 ct1)) (kk : RUN X C 139 Q 43 [.ref 33, .int x1, .int x2, .int x3] [] (mk D1 ct1)) : RUN X C 139 Q 39 [.ref 33, .int x1, .int x2, .int x3] [] (mk (zDm D) ct) :=
  s_aload_n c139_39 rfl <|
  s_callv (args := []) (r := []) c139_40 rfl rfl (Nat.le_of_ble_eq_true rfl) rfl ⟨rfl, by decide⟩ he kk
theorem b139_43 {x1 : Int32} {x2 : Int32} {x3 : Int32} {D1 : zD} {ct1 : zM} (he : C 138 [.ref 36, .int x1, .int x2] (mk (zDm D) ct) none (mk D1 ct1)) (kk : RUN X C 139 Q 52 [.ref 33, .int x1, .int x2, .int x3] [] (mk D1 ct1)) : RUN X C 139 Q 43 [.ref 33, .int x1, .int x2, .int x3] [] (mk (zDm D) ct) :=
  s_aload_n c139_43 rfl <|
  s_getf (ct := ct) c139_44 rfl (by decide) rfl <|
  s_iload_n c139_47 rfl <|
  s_iload_n c139_48 rfl <|
  s_calls (args := [.ref 36, .int x1, .int x2]) (r := []) c139_49 rfl rfl (Nat.le_of_ble_eq_true rfl) he kk
theorem b139_52 {x1 : Int32} {x2 : Int32} {x3 : Int32} (hq : Q (some (.int x3)) (mk (zDm D) ct)) : RUN X C 139 Q 52 [.ref 33, .int x1, .int x2, .int x3] [] (mk (zDm D) ct) :=
  s_iload_n c139_52 rfl <|
  s_iret c139_53 (xrtI rfl) hq
-- ('PaintedTownModel', 'lop', '()I')
theorem b140_0 {l1 : Value} {l2 : Value} {D1 : zD} {ct1 : zM} (he : C 137 [.ref 33] (mk (zDm D) ct) none (mk D1 ct1)) (kk : RUN X C 140 Q 4 [.ref 33, l1, l2] [] (mk D1 ct1)) : RUN X C 140 Q 0 [.ref 33, l1, l2] [] (mk (zDm D) ct) :=
  s_aload_n c140_0 rfl <|
  s_callv (args := []) (r := []) c140_1 rfl rfl (Nat.le_of_ble_eq_true rfl) rfl ⟨rfl, by decide⟩ he kk
theorem b140_4 {l1 : Value} {l2 : Value} (kk : RUN X C 140 Q 8 [.ref 33, .int (nI 0), .int (nI 0)] [] (mk (zDm D) ct)) : RUN X C 140 Q 4 [.ref 33, l1, l2] [] (mk (zDm D) ct) :=
  s_const c140_4 zcI_0 <|
  s_istore_n c140_5 (Nat.le_of_ble_eq_true rfl) True.intro <|
  s_const c140_6 zcI_0 <|
  s_istore_n c140_7 (Nat.le_of_ble_eq_true rfl) True.intro <|
  kk
theorem b140_8 {x1 : Int32} {x2 : Int32} (k1 : (nI 36) ≤ x2 → RUN X C 140 Q 51 [.ref 33, .int x1, .int x2] [] (mk (zDm D) ct)) (k2 : ¬ (nI 36) ≤ x2 → RUN X C 140 Q 14 [.ref 33, .int x1, .int x2] [] (mk (zDm D) ct)) : RUN X C 140 Q 8 [.ref 33, .int x1, .int x2] [] (mk (zDm D) ct) :=
  s_iload_n c140_8 rfl <|
  s_bipush c140_9 zcB_36 <|
  s_icge c140_11 k1 k2
theorem b140_14 {x1 : Int32} {x2 : Int32} {j23 : Nat} (hx23 : zix ((nI 36) + x2) j23 111) (k1 : (ct 36 j23) ≤ (nI 2) → RUN X C 140 Q 32 [.ref 33, .int x1, .int x2] [.int x1] (mk (zDm D) ct)) (k2 : ¬ (ct 36 j23) ≤ (nI 2) → RUN X C 140 Q 28 [.ref 33, .int x1, .int x2] [.int x1] (mk (zDm D) ct)) : RUN X C 140 Q 14 [.ref 33, .int x1, .int x2] [] (mk (zDm D) ct) :=
  s_iload_n c140_14 rfl <|
  s_aload_n c140_15 rfl <|
  s_getf (ct := ct) c140_16 rfl (by decide) rfl <|
  s_bipush c140_19 zcB_36 <|
  s_iload_n c140_21 rfl <|
  s_iadd c140_22 <|
  s_iald (ct := ct) c140_23 rfl hx23 <|
  s_const c140_24 zcI_2 <|
  s_icle c140_25 k1 k2
theorem b140_28 {x1 : Int32} {x2 : Int32} {xs0 : Int32} {j44 : Nat} (hx44 : zix ((nI 36) + x2) j44 111) (kk : RUN X C 140 Q 8 [.ref 33, .int (xs0 + (nI 1)), .int (x2 + nI 1)] [] (mk (zDm D) (u2 ct 36 j44 (nI 0)))) : RUN X C 140 Q 28 [.ref 33, .int x1, .int x2] [.int xs0] (mk (zDm D) ct) :=
  s_const c140_28 zcI_1 <|
  s_goto c140_29 <|
  s_iadd c140_33 <|
  s_istore_n c140_34 (Nat.le_of_ble_eq_true rfl) True.intro <|
  s_aload_n c140_35 rfl <|
  s_getf (ct := ct) c140_36 rfl (by decide) rfl <|
  s_bipush c140_39 zcB_36 <|
  s_iload_n c140_41 rfl <|
  s_iadd c140_42 <|
  s_const c140_43 zcI_0 <|
  s_iast (ct := ct) c140_44 rfl hx44 <|
  s_iinc c140_45 rfl True.intro zcI_1 <|
  s_goto c140_48 <|
  kk
theorem b140_32 {x1 : Int32} {x2 : Int32} {xs0 : Int32} {j44 : Nat} (hx44 : zix ((nI 36) + x2) j44 111) (kk : RUN X C 140 Q 8 [.ref 33, .int (xs0 + (nI 0)), .int (x2 + nI 1)] [] (mk (zDm D) (u2 ct 36 j44 (nI 0)))) : RUN X C 140 Q 32 [.ref 33, .int x1, .int x2] [.int xs0] (mk (zDm D) ct) :=
  s_const c140_32 zcI_0 <|
  s_iadd c140_33 <|
  s_istore_n c140_34 (Nat.le_of_ble_eq_true rfl) True.intro <|
  s_aload_n c140_35 rfl <|
  s_getf (ct := ct) c140_36 rfl (by decide) rfl <|
  s_bipush c140_39 zcB_36 <|
  s_iload_n c140_41 rfl <|
  s_iadd c140_42 <|
  s_const c140_43 zcI_0 <|
  s_iast (ct := ct) c140_44 rfl hx44 <|
  s_iinc c140_45 rfl True.intro zcI_1 <|
  s_goto c140_48 <|
  kk
theorem b140_51 {x1 : Int32} {x2 : Int32} (hq : Q (some (.int x1)) (mk (zDm D) ct)) : RUN X C 140 Q 51 [.ref 33, .int x1, .int x2] [] (mk (zDm D) ct) :=
  s_iload_n c140_51 rfl <|
  s_iret c140_52 (xrtI rfl) hq
end
