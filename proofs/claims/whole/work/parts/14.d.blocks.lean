/-! Rows of code, and blocks of them: printed by wip/whole/runblk.py. -/
theorem c141_0 : xCD 141 0 = some (.aload_n 0, []) := rfl
theorem c141_1 : xCD 141 1 = some (.iload_n 1, []) := rfl
theorem c141_2 : xCD 141 2 = some (.invokevirtual 161, [124, 1, 0, 726, 728, 371, 727, 729]) := rfl
theorem c141_5 : xCD 141 5 = some (.ifCond .ne 5, [10]) := rfl
theorem c141_8 : xCD 141 8 = some (.iconst (-1), []) := rfl
theorem c141_9 : xCD 141 9 = some (.ireturn, []) := rfl
theorem c141_10 : xCD 141 10 = some (.aload_n 0, []) := rfl
theorem c141_11 : xCD 141 11 = some (.invokevirtual 171, [137, 0, 0, 768, 770, 371, 769, 771]) := rfl
theorem c141_14 : xCD 141 14 = some (.aload_n 0, []) := rfl
theorem c141_15 : xCD 141 15 = some (.getfield 16, [7, 2, 642]) := rfl
theorem c141_18 : xCD 141 18 = some (.bipush 72, []) := rfl
theorem c141_20 : xCD 141 20 = some (.iload_n 1, []) := rfl
theorem c141_21 : xCD 141 21 = some (.iadd, []) := rfl
theorem c141_22 : xCD 141 22 = some (.iconst 1, []) := rfl
theorem c141_23 : xCD 141 23 = some (.aload_n 0, []) := rfl
theorem c141_24 : xCD 141 24 = some (.getfield 16, [7, 2, 642]) := rfl
theorem c141_27 : xCD 141 27 = some (.bipush 72, []) := rfl
theorem c141_29 : xCD 141 29 = some (.iload_n 1, []) := rfl
theorem c141_30 : xCD 141 30 = some (.iadd, []) := rfl
theorem c141_31 : xCD 141 31 = some (.iaload, []) := rfl
theorem c141_32 : xCD 141 32 = some (.isub, []) := rfl
theorem c141_33 : xCD 141 33 = some (.iastore, []) := rfl
theorem c141_34 : xCD 141 34 = some (.aload_n 0, []) := rfl
theorem c141_35 : xCD 141 35 = some (.getfield 16, [7, 2, 642]) := rfl
theorem c141_38 : xCD 141 38 = some (.bipush 72, []) := rfl
theorem c141_40 : xCD 141 40 = some (.iload_n 1, []) := rfl
theorem c141_41 : xCD 141 41 = some (.iadd, []) := rfl
theorem c141_42 : xCD 141 42 = some (.iaload, []) := rfl
theorem c141_43 : xCD 141 43 = some (.ireturn, []) := rfl
theorem c142_0 : xCD 142 0 = some (.iload_n 1, []) := rfl
theorem c142_1 : xCD 142 1 = some (.i2l, []) := rfl
theorem c142_2 : xCD 142 2 = some (.lconst 0, []) := rfl
theorem c142_3 : xCD 142 3 = some (.ldc2_w 180, [3, 776]) := rfl
theorem c142_6 : xCD 142 6 = some (.invokestatic 53, [108, 3, 0, 672, 674, 371, 673]) := rfl
theorem c142_9 : xCD 142 9 = some (.ifCond .ne 5, [14]) := rfl
theorem c142_12 : xCD 142 12 = some (.iconst (-1), []) := rfl
theorem c142_13 : xCD 142 13 = some (.ireturn, []) := rfl
theorem c142_14 : xCD 142 14 = some (.aload_n 0, []) := rfl
theorem c142_15 : xCD 142 15 = some (.invokevirtual 171, [137, 0, 0, 768, 770, 371, 769, 771]) := rfl
theorem c142_18 : xCD 142 18 = some (.aload_n 0, []) := rfl
theorem c142_19 : xCD 142 19 = some (.getfield 16, [7, 2, 642]) := rfl
theorem c142_22 : xCD 142 22 = some (.bipush 108, []) := rfl
theorem c142_24 : xCD 142 24 = some (.iaload, []) := rfl
theorem c142_25 : xCD 142 25 = some (.istore_n 2, []) := rfl
theorem c142_26 : xCD 142 26 = some (.aload_n 0, []) := rfl
theorem c142_27 : xCD 142 27 = some (.getfield 16, [7, 2, 642]) := rfl
theorem c142_30 : xCD 142 30 = some (.bipush 108, []) := rfl
theorem c142_32 : xCD 142 32 = some (.iload_n 1, []) := rfl
theorem c142_33 : xCD 142 33 = some (.iastore, []) := rfl
theorem c142_34 : xCD 142 34 = some (.iload_n 2, []) := rfl
theorem c142_35 : xCD 142 35 = some (.ireturn, []) := rfl
theorem c143_0 : xCD 143 0 = some (.aload_n 0, []) := rfl
theorem c143_1 : xCD 143 1 = some (.iload_n 1, []) := rfl
theorem c143_2 : xCD 143 2 = some (.invokevirtual 161, [124, 1, 0, 726, 728, 371, 727, 729]) := rfl
theorem c143_5 : xCD 143 5 = some (.ifCond .ne 5, [10]) := rfl
theorem c143_8 : xCD 143 8 = some (.iconst (-1), []) := rfl
theorem c143_9 : xCD 143 9 = some (.ireturn, []) := rfl
theorem c143_10 : xCD 143 10 = some (.aload_n 0, []) := rfl
theorem c143_11 : xCD 143 11 = some (.invokevirtual 171, [137, 0, 0, 768, 770, 371, 769, 771]) := rfl
theorem c143_14 : xCD 143 14 = some (.aload_n 0, []) := rfl
theorem c143_15 : xCD 143 15 = some (.getfield 16, [7, 2, 642]) := rfl
theorem c143_18 : xCD 143 18 = some (.bipush 109, []) := rfl
theorem c143_20 : xCD 143 20 = some (.iaload, []) := rfl
theorem c143_21 : xCD 143 21 = some (.istore_n 2, []) := rfl
theorem c143_22 : xCD 143 22 = some (.aload_n 0, []) := rfl
theorem c143_23 : xCD 143 23 = some (.getfield 16, [7, 2, 642]) := rfl
theorem c143_26 : xCD 143 26 = some (.bipush 109, []) := rfl
theorem c143_28 : xCD 143 28 = some (.iload_n 1, []) := rfl
theorem c143_29 : xCD 143 29 = some (.iastore, []) := rfl
theorem c143_30 : xCD 143 30 = some (.iload_n 2, []) := rfl
theorem c143_31 : xCD 143 31 = some (.ireturn, []) := rfl
theorem c144_0 : xCD 144 0 = some (.iload_n 1, []) := rfl
theorem c144_1 : xCD 144 1 = some (.i2l, []) := rfl
theorem c144_2 : xCD 144 2 = some (.lconst 1, []) := rfl
theorem c144_3 : xCD 144 3 = some (.ldc2_w 182, [20, 777]) := rfl
theorem c144_6 : xCD 144 6 = some (.invokestatic 53, [108, 3, 0, 672, 674, 371, 673]) := rfl
theorem c144_9 : xCD 144 9 = some (.ifCond .ne 5, [14]) := rfl
theorem c144_12 : xCD 144 12 = some (.iconst (-1), []) := rfl
theorem c144_13 : xCD 144 13 = some (.ireturn, []) := rfl
theorem c144_14 : xCD 144 14 = some (.aload_n 0, []) := rfl
theorem c144_15 : xCD 144 15 = some (.invokevirtual 171, [137, 0, 0, 768, 770, 371, 769, 771]) := rfl
theorem c144_18 : xCD 144 18 = some (.aload_n 0, []) := rfl
theorem c144_19 : xCD 144 19 = some (.getfield 16, [7, 2, 642]) := rfl
theorem c144_22 : xCD 144 22 = some (.iload_n 1, []) := rfl
theorem c144_23 : xCD 144 23 = some (.invokestatic 184, [145, 2, 0, 778, 780, 371, 779]) := rfl
theorem c144_26 : xCD 144 26 = some (.aload_n 0, []) := rfl
theorem c144_27 : xCD 144 27 = some (.getfield 16, [7, 2, 642]) := rfl
theorem c144_30 : xCD 144 30 = some (.bipush 110, []) := rfl
theorem c144_32 : xCD 144 32 = some (.dup2, []) := rfl
theorem c144_33 : xCD 144 33 = some (.iaload, []) := rfl
theorem c144_34 : xCD 144 34 = some (.iload_n 1, []) := rfl
theorem c144_35 : xCD 144 35 = some (.iadd, []) := rfl
theorem c144_36 : xCD 144 36 = some (.iastore, []) := rfl
theorem c144_37 : xCD 144 37 = some (.aload_n 0, []) := rfl
theorem c144_38 : xCD 144 38 = some (.getfield 16, [7, 2, 642]) := rfl
theorem c144_41 : xCD 144 41 = some (.bipush 110, []) := rfl
theorem c144_43 : xCD 144 43 = some (.iaload, []) := rfl
theorem c144_44 : xCD 144 44 = some (.ireturn, []) := rfl
theorem c145_0 : xCD 145 0 = some (.iconst 0, []) := rfl
theorem c145_1 : xCD 145 1 = some (.istore_n 2, []) := rfl
theorem c145_2 : xCD 145 2 = some (.iload_n 2, []) := rfl
theorem c145_3 : xCD 145 3 = some (.bipush 36, []) := rfl
theorem c145_5 : xCD 145 5 = some (.if_icmp .ge 32, [37]) := rfl
theorem c145_8 : xCD 145 8 = some (.aload_n 0, []) := rfl
theorem c145_9 : xCD 145 9 = some (.bipush 36, []) := rfl
theorem c145_11 : xCD 145 11 = some (.iload_n 2, []) := rfl
theorem c145_12 : xCD 145 12 = some (.iadd, []) := rfl
theorem c145_13 : xCD 145 13 = some (.dup2, []) := rfl
theorem c145_14 : xCD 145 14 = some (.iaload, []) := rfl
theorem c145_15 : xCD 145 15 = some (.aload_n 0, []) := rfl
theorem c145_16 : xCD 145 16 = some (.iconst 0, []) := rfl
theorem c145_17 : xCD 145 17 = some (.iload_n 2, []) := rfl
theorem c145_18 : xCD 145 18 = some (.iadd, []) := rfl
theorem c145_19 : xCD 145 19 = some (.iaload, []) := rfl
theorem c145_20 : xCD 145 20 = some (.iconst 5, []) := rfl
theorem c145_21 : xCD 145 21 = some (.if_icmp .ne 7, [28]) := rfl
theorem c145_24 : xCD 145 24 = some (.iload_n 1, []) := rfl
theorem c145_25 : xCD 145 25 = some (.goto 4, [29]) := rfl
theorem c145_28 : xCD 145 28 = some (.iconst 0, []) := rfl
theorem c145_29 : xCD 145 29 = some (.iadd, []) := rfl
theorem c145_30 : xCD 145 30 = some (.iastore, []) := rfl
theorem c145_31 : xCD 145 31 = some (.iinc 2 1, []) := rfl
theorem c145_34 : xCD 145 34 = some (.goto (-32), [2]) := rfl
theorem c145_37 : xCD 145 37 = some (.return_, []) := rfl
theorem c146_0 : xCD 146 0 = some (.aload_n 0, []) := rfl
theorem c146_1 : xCD 146 1 = some (.getfield 118, [7, 5, 667]) := rfl
theorem c146_4 : xCD 146 4 = some (.ifCond .ne 6, [10]) := rfl
theorem c146_7 : xCD 146 7 = some (.bipush (-2), []) := rfl
theorem c146_9 : xCD 146 9 = some (.ireturn, []) := rfl
theorem c146_10 : xCD 146 10 = some (.aload_n 0, []) := rfl
theorem c146_11 : xCD 146 11 = some (.dup, []) := rfl
theorem c146_12 : xCD 146 12 = some (.getfield 118, [7, 5, 667]) := rfl
theorem c146_15 : xCD 146 15 = some (.iconst 1, []) := rfl
theorem c146_16 : xCD 146 16 = some (.isub, []) := rfl
theorem c146_17 : xCD 146 17 = some (.putfield 118, [7, 5, 667]) := rfl
theorem c146_20 : xCD 146 20 = some (.aload_n 0, []) := rfl
theorem c146_21 : xCD 146 21 = some (.getfield 22, [7, 4, 644]) := rfl
theorem c146_24 : xCD 146 24 = some (.bipush 111, []) := rfl
theorem c146_26 : xCD 146 26 = some (.aload_n 0, []) := rfl
theorem c146_27 : xCD 146 27 = some (.getfield 118, [7, 5, 667]) := rfl
theorem c146_30 : xCD 146 30 = some (.imul, []) := rfl
theorem c146_31 : xCD 146 31 = some (.aload_n 0, []) := rfl
theorem c146_32 : xCD 146 32 = some (.getfield 16, [7, 2, 642]) := rfl
theorem c146_35 : xCD 146 35 = some (.iconst 0, []) := rfl
theorem c146_36 : xCD 146 36 = some (.bipush 111, []) := rfl
theorem c146_38 : xCD 146 38 = some (.invokestatic 92, [106, 5, 0, 664, 666, 371, 665]) := rfl
theorem c146_41 : xCD 146 41 = some (.aload_n 0, []) := rfl
theorem c146_42 : xCD 146 42 = some (.getfield 118, [7, 5, 667]) := rfl
theorem c146_45 : xCD 146 45 = some (.ireturn, []) := rfl
theorem c147_0 : xCD 147 0 = some (.iload_n 1, []) := rfl
theorem c147_1 : xCD 147 1 = some (.i2l, []) := rfl
theorem c147_2 : xCD 147 2 = some (.lconst 0, []) := rfl
theorem c147_3 : xCD 147 3 = some (.ldc2_w 182, [20, 777]) := rfl
theorem c147_6 : xCD 147 6 = some (.invokestatic 53, [108, 3, 0, 672, 674, 371, 673]) := rfl
theorem c147_9 : xCD 147 9 = some (.ifCond .eq 10, [19]) := rfl
theorem c147_12 : xCD 147 12 = some (.iload_n 2, []) := rfl
theorem c147_13 : xCD 147 13 = some (.invokestatic 188, [148, 1, 0, 781, 783, 371, 782]) := rfl
theorem c147_16 : xCD 147 16 = some (.ifCond .ne 5, [21]) := rfl
theorem c147_19 : xCD 147 19 = some (.iconst (-1), []) := rfl
theorem c147_20 : xCD 147 20 = some (.ireturn, []) := rfl
theorem c147_21 : xCD 147 21 = some (.aload_n 0, []) := rfl
theorem c147_22 : xCD 147 22 = some (.invokevirtual 191, [149, 0, 0, 784, 786, 371, 785, 787]) := rfl
theorem c147_25 : xCD 147 25 = some (.aload_n 0, []) := rfl
theorem c147_26 : xCD 147 26 = some (.getfield 19, [7, 3, 643]) := rfl
theorem c147_29 : xCD 147 29 = some (.iload_n 1, []) := rfl
theorem c147_30 : xCD 147 30 = some (.invokestatic 184, [145, 2, 0, 778, 780, 371, 779]) := rfl
theorem c147_33 : xCD 147 33 = some (.iload_n 2, []) := rfl
theorem c147_34 : xCD 147 34 = some (.ifCond .ne 14, [48]) := rfl
theorem c147_37 : xCD 147 37 = some (.aload_n 0, []) := rfl
theorem c147_38 : xCD 147 38 = some (.aload_n 0, []) := rfl
theorem c147_39 : xCD 147 39 = some (.getfield 19, [7, 3, 643]) := rfl
theorem c147_42 : xCD 147 42 = some (.invokevirtual 157, [133, 1, 0, 756, 758, 371, 757, 759]) := rfl
theorem c147_45 : xCD 147 45 = some (.goto 19, [64]) := rfl
theorem c147_48 : xCD 147 48 = some (.aload_n 0, []) := rfl
theorem c147_49 : xCD 147 49 = some (.aload_n 0, []) := rfl
theorem c147_50 : xCD 147 50 = some (.getfield 19, [7, 3, 643]) := rfl
theorem c147_53 : xCD 147 53 = some (.invokevirtual 164, [134, 1, 0, 760, 762, 371, 761, 763]) := rfl
theorem c147_56 : xCD 147 56 = some (.ifCond .eq 7, [63]) := rfl
theorem c147_59 : xCD 147 59 = some (.iconst 1, []) := rfl
theorem c147_60 : xCD 147 60 = some (.goto 4, [64]) := rfl
theorem c147_63 : xCD 147 63 = some (.iconst 0, []) := rfl
theorem c147_64 : xCD 147 64 = some (.ireturn, []) := rfl
theorem c148_0 : xCD 148 0 = some (.iload_n 0, []) := rfl
theorem c148_1 : xCD 148 1 = some (.i2l, []) := rfl
theorem c148_2 : xCD 148 2 = some (.lconst 0, []) := rfl
theorem c148_3 : xCD 148 3 = some (.lconst 1, []) := rfl
theorem c148_4 : xCD 148 4 = some (.invokestatic 53, [108, 3, 0, 672, 674, 371, 673]) := rfl
theorem c148_7 : xCD 148 7 = some (.ireturn, []) := rfl
theorem c149_0 : xCD 149 0 = some (.aload_n 0, []) := rfl
theorem c149_1 : xCD 149 1 = some (.getfield 16, [7, 2, 642]) := rfl
theorem c149_4 : xCD 149 4 = some (.iconst 0, []) := rfl
theorem c149_5 : xCD 149 5 = some (.aload_n 0, []) := rfl
theorem c149_6 : xCD 149 6 = some (.getfield 19, [7, 3, 643]) := rfl
theorem c149_9 : xCD 149 9 = some (.iconst 0, []) := rfl
theorem c149_10 : xCD 149 10 = some (.bipush 111, []) := rfl
theorem c149_12 : xCD 149 12 = some (.invokestatic 92, [106, 5, 0, 664, 666, 371, 665]) := rfl
theorem c149_15 : xCD 149 15 = some (.return_, []) := rfl
theorem c150_0 : xCD 150 0 = some (.aload_n 0, []) := rfl
theorem c150_1 : xCD 150 1 = some (.invokevirtual 191, [149, 0, 0, 784, 786, 371, 785, 787]) := rfl
theorem c150_4 : xCD 150 4 = some (.iconst 0, []) := rfl
theorem c150_5 : xCD 150 5 = some (.istore_n 1, []) := rfl
theorem c150_6 : xCD 150 6 = some (.iload_n 1, []) := rfl
theorem c150_7 : xCD 150 7 = some (.bipush 21, []) := rfl
theorem c150_9 : xCD 150 9 = some (.if_icmp .ge 30, [39]) := rfl
theorem c150_12 : xCD 150 12 = some (.aload_n 0, []) := rfl
theorem c150_13 : xCD 150 13 = some (.aload_n 0, []) := rfl
theorem c150_14 : xCD 150 14 = some (.getfield 19, [7, 3, 643]) := rfl
theorem c150_17 : xCD 150 17 = some (.invokevirtual 164, [134, 1, 0, 760, 762, 371, 761, 763]) := rfl
theorem c150_20 : xCD 150 20 = some (.ifCond .ne 5, [25]) := rfl
theorem c150_23 : xCD 150 23 = some (.iload_n 1, []) := rfl
theorem c150_24 : xCD 150 24 = some (.ireturn, []) := rfl
theorem c150_25 : xCD 150 25 = some (.aload_n 0, []) := rfl
theorem c150_26 : xCD 150 26 = some (.getfield 19, [7, 3, 643]) := rfl
theorem c150_29 : xCD 150 29 = some (.iconst 1, []) := rfl
theorem c150_30 : xCD 150 30 = some (.invokestatic 184, [145, 2, 0, 778, 780, 371, 779]) := rfl
theorem c150_33 : xCD 150 33 = some (.iinc 1 1, []) := rfl
theorem c150_36 : xCD 150 36 = some (.goto (-30), [6]) := rfl
theorem c150_39 : xCD 150 39 = some (.bipush (-4), []) := rfl
theorem c150_41 : xCD 150 41 = some (.ireturn, []) := rfl
theorem c151_0 : xCD 151 0 = some (.aload_n 0, []) := rfl
theorem c151_1 : xCD 151 1 = some (.iload_n 1, []) := rfl
theorem c151_2 : xCD 151 2 = some (.iconst 0, []) := rfl
theorem c151_3 : xCD 151 3 = some (.invokevirtual 209, [152, 2, 0, 788, 790, 371, 789, 791]) := rfl
theorem c151_6 : xCD 151 6 = some (.ireturn, []) := rfl
theorem c152_0 : xCD 152 0 = some (.iload_n 1, []) := rfl
theorem c152_1 : xCD 152 1 = some (.i2l, []) := rfl
theorem c152_2 : xCD 152 2 = some (.lconst 0, []) := rfl
theorem c152_3 : xCD 152 3 = some (.ldc2_w 180, [3, 776]) := rfl
theorem c152_6 : xCD 152 6 = some (.invokestatic 53, [108, 3, 0, 672, 674, 371, 673]) := rfl
theorem c152_9 : xCD 152 9 = some (.ifCond .ne 5, [14]) := rfl
theorem c152_12 : xCD 152 12 = some (.iconst (-1), []) := rfl
theorem c152_13 : xCD 152 13 = some (.ireturn, []) := rfl
theorem c152_14 : xCD 152 14 = some (.aload_n 0, []) := rfl
theorem c152_15 : xCD 152 15 = some (.iload_n 2, []) := rfl
theorem c152_16 : xCD 152 16 = some (.invokevirtual 205, [153, 1, 0, 792, 794, 371, 793, 795]) := rfl
theorem c152_19 : xCD 152 19 = some (.aload_n 0, []) := rfl
theorem c152_20 : xCD 152 20 = some (.getfield 194, [7, 18, 796]) := rfl
theorem c152_23 : xCD 152 23 = some (.ldc 200, [1, 1000000, 797]) := rfl
theorem c152_25 : xCD 152 25 = some (.if_icmp .ne 6, [31]) := rfl
theorem c152_28 : xCD 152 28 = some (.bipush (-4), []) := rfl
theorem c152_30 : xCD 152 30 = some (.ireturn, []) := rfl
theorem c152_31 : xCD 152 31 = some (.iload_n 1, []) := rfl
theorem c152_32 : xCD 152 32 = some (.ifCond .ne 10, [42]) := rfl
theorem c152_35 : xCD 152 35 = some (.aload_n 0, []) := rfl
theorem c152_36 : xCD 152 36 = some (.getfield 194, [7, 18, 796]) := rfl
theorem c152_39 : xCD 152 39 = some (.goto 24, [63]) := rfl
theorem c152_42 : xCD 152 42 = some (.iload_n 1, []) := rfl
theorem c152_43 : xCD 152 43 = some (.aload_n 0, []) := rfl
theorem c152_44 : xCD 152 44 = some (.getfield 197, [7, 17, 798]) := rfl
theorem c152_47 : xCD 152 47 = some (.if_icmp .gt 14, [61]) := rfl
theorem c152_50 : xCD 152 50 = some (.aload_n 0, []) := rfl
theorem c152_51 : xCD 152 51 = some (.getfield 37, [7, 15, 649]) := rfl
theorem c152_54 : xCD 152 54 = some (.iload_n 1, []) := rfl
theorem c152_55 : xCD 152 55 = some (.iconst 1, []) := rfl
theorem c152_56 : xCD 152 56 = some (.isub, []) := rfl
theorem c152_57 : xCD 152 57 = some (.iaload, []) := rfl
theorem c152_58 : xCD 152 58 = some (.goto 5, [63]) := rfl
theorem c152_61 : xCD 152 61 = some (.bipush (-4), []) := rfl
theorem c152_63 : xCD 152 63 = some (.ireturn, []) := rfl
theorem c153_0 : xCD 153 0 = some (.aload_n 0, []) := rfl
theorem c153_1 : xCD 153 1 = some (.ldc 200, [1, 1000000, 797]) := rfl
theorem c153_3 : xCD 153 3 = some (.putfield 194, [7, 18, 796]) := rfl
theorem c153_6 : xCD 153 6 = some (.aload_n 0, []) := rfl
theorem c153_7 : xCD 153 7 = some (.iconst 0, []) := rfl
theorem c153_8 : xCD 153 8 = some (.iload_n 1, []) := rfl
theorem c153_9 : xCD 153 9 = some (.invokevirtual 201, [154, 2, 0, 799, 801, 371, 800, 802]) := rfl
theorem c153_12 : xCD 153 12 = some (.aload_n 0, []) := rfl
theorem c153_13 : xCD 153 13 = some (.invokevirtual 130, [122, 0, 0, 722, 724, 371, 723, 725]) := rfl
theorem c153_16 : xCD 153 16 = some (.istore_n 2, []) := rfl
theorem c153_17 : xCD 153 17 = some (.aload_n 0, []) := rfl
theorem c153_18 : xCD 153 18 = some (.getfield 40, [7, 16, 650]) := rfl
theorem c153_21 : xCD 153 21 = some (.iconst 0, []) := rfl
theorem c153_22 : xCD 153 22 = some (.iconst 0, []) := rfl
theorem c153_23 : xCD 153 23 = some (.iastore, []) := rfl
theorem c153_24 : xCD 153 24 = some (.aload_n 0, []) := rfl
theorem c153_25 : xCD 153 25 = some (.getfield 40, [7, 16, 650]) := rfl
theorem c153_28 : xCD 153 28 = some (.iconst 0, []) := rfl
theorem c153_29 : xCD 153 29 = some (.iaload, []) := rfl
theorem c153_30 : xCD 153 30 = some (.iload_n 2, []) := rfl
theorem c153_31 : xCD 153 31 = some (.if_icmp .ge 22, [53]) := rfl
theorem c153_34 : xCD 153 34 = some (.aload_n 0, []) := rfl
theorem c153_35 : xCD 153 35 = some (.iconst 1, []) := rfl
theorem c153_36 : xCD 153 36 = some (.iload_n 1, []) := rfl
theorem c153_37 : xCD 153 37 = some (.invokevirtual 201, [154, 2, 0, 799, 801, 371, 800, 802]) := rfl
theorem c153_40 : xCD 153 40 = some (.aload_n 0, []) := rfl
theorem c153_41 : xCD 153 41 = some (.getfield 40, [7, 16, 650]) := rfl
theorem c153_44 : xCD 153 44 = some (.iconst 0, []) := rfl
theorem c153_45 : xCD 153 45 = some (.dup2, []) := rfl
theorem c153_46 : xCD 153 46 = some (.iaload, []) := rfl
theorem c153_47 : xCD 153 47 = some (.iconst 1, []) := rfl
theorem c153_48 : xCD 153 48 = some (.iadd, []) := rfl
theorem c153_49 : xCD 153 49 = some (.iastore, []) := rfl
theorem c153_50 : xCD 153 50 = some (.goto (-26), [24]) := rfl
theorem c153_53 : xCD 153 53 = some (.aload_n 0, []) := rfl
theorem c153_54 : xCD 153 54 = some (.getfield 40, [7, 16, 650]) := rfl
theorem c153_57 : xCD 153 57 = some (.iconst 0, []) := rfl
theorem c153_58 : xCD 153 58 = some (.iconst 0, []) := rfl
theorem c153_59 : xCD 153 59 = some (.iastore, []) := rfl
theorem c153_60 : xCD 153 60 = some (.aload_n 0, []) := rfl
theorem c153_61 : xCD 153 61 = some (.getfield 40, [7, 16, 650]) := rfl
theorem c153_64 : xCD 153 64 = some (.iconst 0, []) := rfl
theorem c153_65 : xCD 153 65 = some (.iaload, []) := rfl
theorem c153_66 : xCD 153 66 = some (.iload_n 2, []) := rfl
theorem c153_67 : xCD 153 67 = some (.if_icmp .ge 59, [126]) := rfl
theorem c153_70 : xCD 153 70 = some (.aload_n 0, []) := rfl
theorem c153_71 : xCD 153 71 = some (.getfield 40, [7, 16, 650]) := rfl
theorem c153_74 : xCD 153 74 = some (.iconst 1, []) := rfl
theorem c153_75 : xCD 153 75 = some (.aload_n 0, []) := rfl
theorem c153_76 : xCD 153 76 = some (.getfield 40, [7, 16, 650]) := rfl
theorem c153_79 : xCD 153 79 = some (.iconst 0, []) := rfl
theorem c153_80 : xCD 153 80 = some (.iaload, []) := rfl
theorem c153_81 : xCD 153 81 = some (.iconst 1, []) := rfl
theorem c153_82 : xCD 153 82 = some (.iadd, []) := rfl
theorem c153_83 : xCD 153 83 = some (.iastore, []) := rfl
theorem c153_84 : xCD 153 84 = some (.aload_n 0, []) := rfl
theorem c153_85 : xCD 153 85 = some (.getfield 40, [7, 16, 650]) := rfl
theorem c153_88 : xCD 153 88 = some (.iconst 1, []) := rfl
theorem c153_89 : xCD 153 89 = some (.iaload, []) := rfl
theorem c153_90 : xCD 153 90 = some (.iload_n 2, []) := rfl
theorem c153_91 : xCD 153 91 = some (.if_icmp .ge 22, [113]) := rfl
theorem c153_94 : xCD 153 94 = some (.aload_n 0, []) := rfl
theorem c153_95 : xCD 153 95 = some (.iconst 2, []) := rfl
theorem c153_96 : xCD 153 96 = some (.iload_n 1, []) := rfl
theorem c153_97 : xCD 153 97 = some (.invokevirtual 201, [154, 2, 0, 799, 801, 371, 800, 802]) := rfl
theorem c153_100 : xCD 153 100 = some (.aload_n 0, []) := rfl
theorem c153_101 : xCD 153 101 = some (.getfield 40, [7, 16, 650]) := rfl
theorem c153_104 : xCD 153 104 = some (.iconst 1, []) := rfl
theorem c153_105 : xCD 153 105 = some (.dup2, []) := rfl
theorem c153_106 : xCD 153 106 = some (.iaload, []) := rfl
theorem c153_107 : xCD 153 107 = some (.iconst 1, []) := rfl
theorem c153_108 : xCD 153 108 = some (.iadd, []) := rfl
theorem c153_109 : xCD 153 109 = some (.iastore, []) := rfl
theorem c153_110 : xCD 153 110 = some (.goto (-26), [84]) := rfl
theorem c153_113 : xCD 153 113 = some (.aload_n 0, []) := rfl
theorem c153_114 : xCD 153 114 = some (.getfield 40, [7, 16, 650]) := rfl
theorem c153_117 : xCD 153 117 = some (.iconst 0, []) := rfl
theorem c153_118 : xCD 153 118 = some (.dup2, []) := rfl
theorem c153_119 : xCD 153 119 = some (.iaload, []) := rfl
theorem c153_120 : xCD 153 120 = some (.iconst 1, []) := rfl
theorem c153_121 : xCD 153 121 = some (.iadd, []) := rfl
theorem c153_122 : xCD 153 122 = some (.iastore, []) := rfl
theorem c153_123 : xCD 153 123 = some (.goto (-63), [60]) := rfl
theorem c153_126 : xCD 153 126 = some (.aload_n 0, []) := rfl
theorem c153_127 : xCD 153 127 = some (.getfield 40, [7, 16, 650]) := rfl
theorem c153_130 : xCD 153 130 = some (.iconst 0, []) := rfl
theorem c153_131 : xCD 153 131 = some (.iconst 0, []) := rfl
theorem c153_132 : xCD 153 132 = some (.iastore, []) := rfl
theorem c153_133 : xCD 153 133 = some (.aload_n 0, []) := rfl
theorem c153_134 : xCD 153 134 = some (.getfield 40, [7, 16, 650]) := rfl
theorem c153_137 : xCD 153 137 = some (.iconst 0, []) := rfl
theorem c153_138 : xCD 153 138 = some (.iaload, []) := rfl
theorem c153_139 : xCD 153 139 = some (.iload_n 2, []) := rfl
theorem c153_140 : xCD 153 140 = some (.if_icmp .ge 96, [236]) := rfl
theorem c153_143 : xCD 153 143 = some (.aload_n 0, []) := rfl
theorem c153_144 : xCD 153 144 = some (.getfield 40, [7, 16, 650]) := rfl
theorem c153_147 : xCD 153 147 = some (.iconst 1, []) := rfl
theorem c153_148 : xCD 153 148 = some (.aload_n 0, []) := rfl
theorem c153_149 : xCD 153 149 = some (.getfield 40, [7, 16, 650]) := rfl
theorem c153_152 : xCD 153 152 = some (.iconst 0, []) := rfl
theorem c153_153 : xCD 153 153 = some (.iaload, []) := rfl
theorem c153_154 : xCD 153 154 = some (.iconst 1, []) := rfl
theorem c153_155 : xCD 153 155 = some (.iadd, []) := rfl
theorem c153_156 : xCD 153 156 = some (.iastore, []) := rfl
theorem c153_157 : xCD 153 157 = some (.aload_n 0, []) := rfl
theorem c153_158 : xCD 153 158 = some (.getfield 40, [7, 16, 650]) := rfl
theorem c153_161 : xCD 153 161 = some (.iconst 1, []) := rfl
theorem c153_162 : xCD 153 162 = some (.iaload, []) := rfl
theorem c153_163 : xCD 153 163 = some (.iload_n 2, []) := rfl
theorem c153_164 : xCD 153 164 = some (.if_icmp .ge 59, [223]) := rfl
theorem c153_167 : xCD 153 167 = some (.aload_n 0, []) := rfl
theorem c153_168 : xCD 153 168 = some (.getfield 40, [7, 16, 650]) := rfl
theorem c153_171 : xCD 153 171 = some (.iconst 2, []) := rfl
theorem c153_172 : xCD 153 172 = some (.aload_n 0, []) := rfl
theorem c153_173 : xCD 153 173 = some (.getfield 40, [7, 16, 650]) := rfl
theorem c153_176 : xCD 153 176 = some (.iconst 1, []) := rfl
theorem c153_177 : xCD 153 177 = some (.iaload, []) := rfl
theorem c153_178 : xCD 153 178 = some (.iconst 1, []) := rfl
theorem c153_179 : xCD 153 179 = some (.iadd, []) := rfl
theorem c153_180 : xCD 153 180 = some (.iastore, []) := rfl
theorem c153_181 : xCD 153 181 = some (.aload_n 0, []) := rfl
theorem c153_182 : xCD 153 182 = some (.getfield 40, [7, 16, 650]) := rfl
theorem c153_185 : xCD 153 185 = some (.iconst 2, []) := rfl
theorem c153_186 : xCD 153 186 = some (.iaload, []) := rfl
theorem c153_187 : xCD 153 187 = some (.iload_n 2, []) := rfl
theorem c153_188 : xCD 153 188 = some (.if_icmp .ge 22, [210]) := rfl
theorem c153_191 : xCD 153 191 = some (.aload_n 0, []) := rfl
theorem c153_192 : xCD 153 192 = some (.iconst 3, []) := rfl
theorem c153_193 : xCD 153 193 = some (.iload_n 1, []) := rfl
theorem c153_194 : xCD 153 194 = some (.invokevirtual 201, [154, 2, 0, 799, 801, 371, 800, 802]) := rfl
theorem c153_197 : xCD 153 197 = some (.aload_n 0, []) := rfl
theorem c153_198 : xCD 153 198 = some (.getfield 40, [7, 16, 650]) := rfl
theorem c153_201 : xCD 153 201 = some (.iconst 2, []) := rfl
theorem c153_202 : xCD 153 202 = some (.dup2, []) := rfl
theorem c153_203 : xCD 153 203 = some (.iaload, []) := rfl
theorem c153_204 : xCD 153 204 = some (.iconst 1, []) := rfl
theorem c153_205 : xCD 153 205 = some (.iadd, []) := rfl
theorem c153_206 : xCD 153 206 = some (.iastore, []) := rfl
theorem c153_207 : xCD 153 207 = some (.goto (-26), [181]) := rfl
theorem c153_210 : xCD 153 210 = some (.aload_n 0, []) := rfl
theorem c153_211 : xCD 153 211 = some (.getfield 40, [7, 16, 650]) := rfl
theorem c153_214 : xCD 153 214 = some (.iconst 1, []) := rfl
theorem c153_215 : xCD 153 215 = some (.dup2, []) := rfl
theorem c153_216 : xCD 153 216 = some (.iaload, []) := rfl
theorem c153_217 : xCD 153 217 = some (.iconst 1, []) := rfl
theorem c153_218 : xCD 153 218 = some (.iadd, []) := rfl
theorem c153_219 : xCD 153 219 = some (.iastore, []) := rfl
theorem c153_220 : xCD 153 220 = some (.goto (-63), [157]) := rfl
theorem c153_223 : xCD 153 223 = some (.aload_n 0, []) := rfl
theorem c153_224 : xCD 153 224 = some (.getfield 40, [7, 16, 650]) := rfl
theorem c153_227 : xCD 153 227 = some (.iconst 0, []) := rfl
theorem c153_228 : xCD 153 228 = some (.dup2, []) := rfl
theorem c153_229 : xCD 153 229 = some (.iaload, []) := rfl
theorem c153_230 : xCD 153 230 = some (.iconst 1, []) := rfl
theorem c153_231 : xCD 153 231 = some (.iadd, []) := rfl
theorem c153_232 : xCD 153 232 = some (.iastore, []) := rfl
theorem c153_233 : xCD 153 233 = some (.goto (-100), [133]) := rfl
theorem c153_236 : xCD 153 236 = some (.return_, []) := rfl
theorem c154_0 : xCD 154 0 = some (.iconst 0, []) := rfl
theorem c154_1 : xCD 154 1 = some (.istore_n 3, []) := rfl
theorem c154_2 : xCD 154 2 = some (.iconst 0, []) := rfl
theorem c154_3 : xCD 154 3 = some (.istore 4, []) := rfl
theorem c154_5 : xCD 154 5 = some (.iload 4, []) := rfl
theorem c154_7 : xCD 154 7 = some (.iload_n 1, []) := rfl
theorem c154_8 : xCD 154 8 = some (.if_icmp .ge 102, [110]) := rfl
theorem c154_11 : xCD 154 11 = some (.aload_n 0, []) := rfl
theorem c154_12 : xCD 154 12 = some (.getfield 40, [7, 16, 650]) := rfl
theorem c154_15 : xCD 154 15 = some (.iload 4, []) := rfl
theorem c154_17 : xCD 154 17 = some (.iaload, []) := rfl
theorem c154_18 : xCD 154 18 = some (.istore 5, []) := rfl
theorem c154_20 : xCD 154 20 = some (.iload_n 2, []) := rfl
theorem c154_21 : xCD 154 21 = some (.ifCond .eq 24, [45]) := rfl
theorem c154_24 : xCD 154 24 = some (.aload_n 0, []) := rfl
theorem c154_25 : xCD 154 25 = some (.getfield 16, [7, 2, 642]) := rfl
theorem c154_28 : xCD 154 28 = some (.bipush 72, []) := rfl
theorem c154_30 : xCD 154 30 = some (.iload 5, []) := rfl
theorem c154_32 : xCD 154 32 = some (.iadd, []) := rfl
theorem c154_33 : xCD 154 33 = some (.iaload, []) := rfl
theorem c154_34 : xCD 154 34 = some (.ifCond .ne 7, [41]) := rfl
theorem c154_37 : xCD 154 37 = some (.iconst 1, []) := rfl
theorem c154_38 : xCD 154 38 = some (.goto 34, [72]) := rfl
theorem c154_41 : xCD 154 41 = some (.iconst 0, []) := rfl
theorem c154_42 : xCD 154 42 = some (.goto 30, [72]) := rfl
theorem c154_45 : xCD 154 45 = some (.aload_n 0, []) := rfl
theorem c154_46 : xCD 154 46 = some (.getfield 16, [7, 2, 642]) := rfl
theorem c154_49 : xCD 154 49 = some (.iconst 0, []) := rfl
theorem c154_50 : xCD 154 50 = some (.iload 5, []) := rfl
theorem c154_52 : xCD 154 52 = some (.iadd, []) := rfl
theorem c154_53 : xCD 154 53 = some (.iaload, []) := rfl
theorem c154_54 : xCD 154 54 = some (.aload_n 0, []) := rfl
theorem c154_55 : xCD 154 55 = some (.getfield 7, [7, 0, 640]) := rfl
theorem c154_58 : xCD 154 58 = some (.bipush 9, []) := rfl
theorem c154_60 : xCD 154 60 = some (.iload 5, []) := rfl
theorem c154_62 : xCD 154 62 = some (.iadd, []) := rfl
theorem c154_63 : xCD 154 63 = some (.iaload, []) := rfl
theorem c154_64 : xCD 154 64 = some (.if_icmp .eq 7, [71]) := rfl
theorem c154_67 : xCD 154 67 = some (.iconst 1, []) := rfl
theorem c154_68 : xCD 154 68 = some (.goto 4, [72]) := rfl
theorem c154_71 : xCD 154 71 = some (.iconst 0, []) := rfl
theorem c154_72 : xCD 154 72 = some (.istore 6, []) := rfl
theorem c154_74 : xCD 154 74 = some (.iload 6, []) := rfl
theorem c154_76 : xCD 154 76 = some (.ifCond .ne 4, [80]) := rfl
theorem c154_79 : xCD 154 79 = some (.return_, []) := rfl
theorem c154_80 : xCD 154 80 = some (.iload_n 3, []) := rfl
theorem c154_81 : xCD 154 81 = some (.iload_n 2, []) := rfl
theorem c154_82 : xCD 154 82 = some (.ifCond .eq 7, [89]) := rfl
theorem c154_85 : xCD 154 85 = some (.iconst 1, []) := rfl
theorem c154_86 : xCD 154 86 = some (.goto 16, [102]) := rfl
theorem c154_89 : xCD 154 89 = some (.aload_n 0, []) := rfl
theorem c154_90 : xCD 154 90 = some (.getfield 7, [7, 0, 640]) := rfl
theorem c154_93 : xCD 154 93 = some (.bipush 9, []) := rfl
theorem c154_95 : xCD 154 95 = some (.iload 5, []) := rfl
theorem c154_97 : xCD 154 97 = some (.iadd, []) := rfl
theorem c154_98 : xCD 154 98 = some (.iaload, []) := rfl
theorem c154_99 : xCD 154 99 = some (.invokestatic 148, [130, 1, 0, 750, 752, 371, 751]) := rfl
theorem c154_102 : xCD 154 102 = some (.iadd, []) := rfl
theorem c154_103 : xCD 154 103 = some (.istore_n 3, []) := rfl
theorem c154_104 : xCD 154 104 = some (.iinc 4 1, []) := rfl
theorem c154_107 : xCD 154 107 = some (.goto (-102), [5]) := rfl
theorem c154_110 : xCD 154 110 = some (.iload_n 3, []) := rfl
theorem c154_111 : xCD 154 111 = some (.aload_n 0, []) := rfl
theorem c154_112 : xCD 154 112 = some (.getfield 194, [7, 18, 796]) := rfl
theorem c154_115 : xCD 154 115 = some (.if_icmp .lt 4, [119]) := rfl
theorem c154_118 : xCD 154 118 = some (.return_, []) := rfl
theorem c154_119 : xCD 154 119 = some (.aload_n 0, []) := rfl
theorem c154_120 : xCD 154 120 = some (.invokevirtual 191, [149, 0, 0, 784, 786, 371, 785, 787]) := rfl
theorem c154_123 : xCD 154 123 = some (.iconst 0, []) := rfl
theorem c154_124 : xCD 154 124 = some (.istore 4, []) := rfl
theorem c154_126 : xCD 154 126 = some (.iload 4, []) := rfl
theorem c154_128 : xCD 154 128 = some (.iload_n 1, []) := rfl
theorem c154_129 : xCD 154 129 = some (.if_icmp .ge 61, [190]) := rfl
theorem c154_132 : xCD 154 132 = some (.iload_n 2, []) := rfl
theorem c154_133 : xCD 154 133 = some (.ifCond .eq 22, [155]) := rfl
theorem c154_136 : xCD 154 136 = some (.aload_n 0, []) := rfl
theorem c154_137 : xCD 154 137 = some (.getfield 19, [7, 3, 643]) := rfl
theorem c154_140 : xCD 154 140 = some (.bipush 72, []) := rfl
theorem c154_142 : xCD 154 142 = some (.aload_n 0, []) := rfl
theorem c154_143 : xCD 154 143 = some (.getfield 40, [7, 16, 650]) := rfl
theorem c154_146 : xCD 154 146 = some (.iload 4, []) := rfl
theorem c154_148 : xCD 154 148 = some (.iaload, []) := rfl
theorem c154_149 : xCD 154 149 = some (.iadd, []) := rfl
theorem c154_150 : xCD 154 150 = some (.iconst 1, []) := rfl
theorem c154_151 : xCD 154 151 = some (.iastore, []) := rfl
theorem c154_152 : xCD 154 152 = some (.goto 32, [184]) := rfl
theorem c154_155 : xCD 154 155 = some (.aload_n 0, []) := rfl
theorem c154_156 : xCD 154 156 = some (.getfield 19, [7, 3, 643]) := rfl
theorem c154_159 : xCD 154 159 = some (.aload_n 0, []) := rfl
theorem c154_160 : xCD 154 160 = some (.getfield 40, [7, 16, 650]) := rfl
theorem c154_163 : xCD 154 163 = some (.iload 4, []) := rfl
theorem c154_165 : xCD 154 165 = some (.iaload, []) := rfl
theorem c154_166 : xCD 154 166 = some (.aload_n 0, []) := rfl
theorem c154_167 : xCD 154 167 = some (.getfield 7, [7, 0, 640]) := rfl
theorem c154_170 : xCD 154 170 = some (.bipush 9, []) := rfl
theorem c154_172 : xCD 154 172 = some (.aload_n 0, []) := rfl
theorem c154_173 : xCD 154 173 = some (.getfield 40, [7, 16, 650]) := rfl
theorem c154_176 : xCD 154 176 = some (.iload 4, []) := rfl
theorem c154_178 : xCD 154 178 = some (.iaload, []) := rfl
theorem c154_179 : xCD 154 179 = some (.iadd, []) := rfl
theorem c154_180 : xCD 154 180 = some (.iaload, []) := rfl
theorem c154_181 : xCD 154 181 = some (.invokestatic 174, [138, 3, 0, 772, 774, 371, 773]) := rfl
theorem c154_184 : xCD 154 184 = some (.iinc 4 1, []) := rfl
theorem c154_187 : xCD 154 187 = some (.goto (-61), [126]) := rfl
theorem c154_190 : xCD 154 190 = some (.aload_n 0, []) := rfl
theorem c154_191 : xCD 154 191 = some (.aload_n 0, []) := rfl
theorem c154_192 : xCD 154 192 = some (.getfield 19, [7, 3, 643]) := rfl
theorem c154_195 : xCD 154 195 = some (.invokevirtual 164, [134, 1, 0, 760, 762, 371, 761, 763]) := rfl
theorem c154_198 : xCD 154 198 = some (.ifCond .eq 27, [225]) := rfl
theorem c154_201 : xCD 154 201 = some (.aload_n 0, []) := rfl
theorem c154_202 : xCD 154 202 = some (.iload_n 3, []) := rfl
theorem c154_203 : xCD 154 203 = some (.putfield 194, [7, 18, 796]) := rfl
theorem c154_206 : xCD 154 206 = some (.aload_n 0, []) := rfl
theorem c154_207 : xCD 154 207 = some (.iload_n 1, []) := rfl
theorem c154_208 : xCD 154 208 = some (.putfield 197, [7, 17, 798]) := rfl
theorem c154_211 : xCD 154 211 = some (.aload_n 0, []) := rfl
theorem c154_212 : xCD 154 212 = some (.getfield 40, [7, 16, 650]) := rfl
theorem c154_215 : xCD 154 215 = some (.iconst 0, []) := rfl
theorem c154_216 : xCD 154 216 = some (.aload_n 0, []) := rfl
theorem c154_217 : xCD 154 217 = some (.getfield 37, [7, 15, 649]) := rfl
theorem c154_220 : xCD 154 220 = some (.iconst 0, []) := rfl
theorem c154_221 : xCD 154 221 = some (.iconst 3, []) := rfl
theorem c154_222 : xCD 154 222 = some (.invokestatic 92, [106, 5, 0, 664, 666, 371, 665]) := rfl
theorem c154_225 : xCD 154 225 = some (.return_, []) := rfl
theorem c155_0 : xCD 155 0 = some (.aload_n 0, []) := rfl
theorem c155_1 : xCD 155 1 = some (.iload_n 1, []) := rfl
theorem c155_2 : xCD 155 2 = some (.iconst 1, []) := rfl
theorem c155_3 : xCD 155 3 = some (.invokevirtual 209, [152, 2, 0, 788, 790, 371, 789, 791]) := rfl
theorem c155_6 : xCD 155 6 = some (.ireturn, []) := rfl
theorem c156_0 : xCD 156 0 = some (.iload_n 1, []) := rfl
theorem c156_1 : xCD 156 1 = some (.i2l, []) := rfl
theorem c156_2 : xCD 156 2 = some (.lconst 0, []) := rfl
theorem c156_3 : xCD 156 3 = some (.aload_n 0, []) := rfl
theorem c156_4 : xCD 156 4 = some (.getfield 7, [7, 0, 640]) := rfl
theorem c156_7 : xCD 156 7 = some (.iconst 0, []) := rfl
theorem c156_8 : xCD 156 8 = some (.iaload, []) := rfl
theorem c156_9 : xCD 156 9 = some (.iconst 1, []) := rfl
theorem c156_10 : xCD 156 10 = some (.isub, []) := rfl
theorem c156_11 : xCD 156 11 = some (.i2l, []) := rfl
theorem c156_12 : xCD 156 12 = some (.invokestatic 53, [108, 3, 0, 672, 674, 371, 673]) := rfl
theorem c156_15 : xCD 156 15 = some (.ifCond .ne 5, [20]) := rfl
theorem c156_18 : xCD 156 18 = some (.iconst (-1), []) := rfl
theorem c156_19 : xCD 156 19 = some (.ireturn, []) := rfl
theorem c156_20 : xCD 156 20 = some (.aload_n 0, []) := rfl
theorem c156_21 : xCD 156 21 = some (.invokevirtual 191, [149, 0, 0, 784, 786, 371, 785, 787]) := rfl
theorem c156_24 : xCD 156 24 = some (.iconst 0, []) := rfl
theorem c156_25 : xCD 156 25 = some (.istore_n 2, []) := rfl
theorem c156_26 : xCD 156 26 = some (.iload_n 2, []) := rfl
theorem c156_27 : xCD 156 27 = some (.aload_n 0, []) := rfl
theorem c156_28 : xCD 156 28 = some (.invokevirtual 130, [122, 0, 0, 722, 724, 371, 723, 725]) := rfl
theorem c156_31 : xCD 156 31 = some (.if_icmp .ge 83, [114]) := rfl
theorem c156_34 : xCD 156 34 = some (.aload_n 0, []) := rfl
theorem c156_35 : xCD 156 35 = some (.getfield 16, [7, 2, 642]) := rfl
theorem c156_38 : xCD 156 38 = some (.iconst 0, []) := rfl
theorem c156_39 : xCD 156 39 = some (.iload_n 2, []) := rfl
theorem c156_40 : xCD 156 40 = some (.iadd, []) := rfl
theorem c156_41 : xCD 156 41 = some (.iaload, []) := rfl
theorem c156_42 : xCD 156 42 = some (.iconst 5, []) := rfl
theorem c156_43 : xCD 156 43 = some (.if_icmp .ne 20, [63]) := rfl
theorem c156_46 : xCD 156 46 = some (.aload_n 0, []) := rfl
theorem c156_47 : xCD 156 47 = some (.getfield 7, [7, 0, 640]) := rfl
theorem c156_50 : xCD 156 50 = some (.bipush 9, []) := rfl
theorem c156_52 : xCD 156 52 = some (.iload_n 2, []) := rfl
theorem c156_53 : xCD 156 53 = some (.iadd, []) := rfl
theorem c156_54 : xCD 156 54 = some (.iaload, []) := rfl
theorem c156_55 : xCD 156 55 = some (.iconst 5, []) := rfl
theorem c156_56 : xCD 156 56 = some (.if_icmp .ne 7, [63]) := rfl
theorem c156_59 : xCD 156 59 = some (.iconst 1, []) := rfl
theorem c156_60 : xCD 156 60 = some (.goto 4, [64]) := rfl
theorem c156_63 : xCD 156 63 = some (.iconst 0, []) := rfl
theorem c156_64 : xCD 156 64 = some (.istore_n 3, []) := rfl
theorem c156_65 : xCD 156 65 = some (.aload_n 0, []) := rfl
theorem c156_66 : xCD 156 66 = some (.getfield 19, [7, 3, 643]) := rfl
theorem c156_69 : xCD 156 69 = some (.iconst 0, []) := rfl
theorem c156_70 : xCD 156 70 = some (.iload_n 2, []) := rfl
theorem c156_71 : xCD 156 71 = some (.iadd, []) := rfl
theorem c156_72 : xCD 156 72 = some (.aload_n 0, []) := rfl
theorem c156_73 : xCD 156 73 = some (.getfield 7, [7, 0, 640]) := rfl
theorem c156_76 : xCD 156 76 = some (.bipush 9, []) := rfl
theorem c156_78 : xCD 156 78 = some (.iload_n 2, []) := rfl
theorem c156_79 : xCD 156 79 = some (.iadd, []) := rfl
theorem c156_80 : xCD 156 80 = some (.iaload, []) := rfl
theorem c156_81 : xCD 156 81 = some (.iastore, []) := rfl
theorem c156_82 : xCD 156 82 = some (.aload_n 0, []) := rfl
theorem c156_83 : xCD 156 83 = some (.getfield 19, [7, 3, 643]) := rfl
theorem c156_86 : xCD 156 86 = some (.bipush 36, []) := rfl
theorem c156_88 : xCD 156 88 = some (.iload_n 2, []) := rfl
theorem c156_89 : xCD 156 89 = some (.iadd, []) := rfl
theorem c156_90 : xCD 156 90 = some (.iload_n 3, []) := rfl
theorem c156_91 : xCD 156 91 = some (.ifCond .eq 15, [106]) := rfl
theorem c156_94 : xCD 156 94 = some (.aload_n 0, []) := rfl
theorem c156_95 : xCD 156 95 = some (.getfield 16, [7, 2, 642]) := rfl
theorem c156_98 : xCD 156 98 = some (.bipush 36, []) := rfl
theorem c156_100 : xCD 156 100 = some (.iload_n 2, []) := rfl
theorem c156_101 : xCD 156 101 = some (.iadd, []) := rfl
theorem c156_102 : xCD 156 102 = some (.iaload, []) := rfl
theorem c156_103 : xCD 156 103 = some (.goto 4, [107]) := rfl
theorem c156_106 : xCD 156 106 = some (.iconst 0, []) := rfl
theorem c156_107 : xCD 156 107 = some (.iastore, []) := rfl
theorem c156_108 : xCD 156 108 = some (.iinc 2 1, []) := rfl
theorem c156_111 : xCD 156 111 = some (.goto (-85), [26]) := rfl
theorem c156_114 : xCD 156 114 = some (.iconst 0, []) := rfl
theorem c156_115 : xCD 156 115 = some (.istore_n 2, []) := rfl
theorem c156_116 : xCD 156 116 = some (.iconst 0, []) := rfl
theorem c156_117 : xCD 156 117 = some (.istore_n 3, []) := rfl
theorem c156_118 : xCD 156 118 = some (.iload_n 3, []) := rfl
theorem c156_119 : xCD 156 119 = some (.aload_n 0, []) := rfl
theorem c156_120 : xCD 156 120 = some (.getfield 7, [7, 0, 640]) := rfl
theorem c156_123 : xCD 156 123 = some (.iconst 1, []) := rfl
theorem c156_124 : xCD 156 124 = some (.iaload, []) := rfl
theorem c156_125 : xCD 156 125 = some (.if_icmp .ge 54, [179]) := rfl
theorem c156_128 : xCD 156 128 = some (.iload_n 1, []) := rfl
theorem c156_129 : xCD 156 129 = some (.aload_n 0, []) := rfl
theorem c156_130 : xCD 156 130 = some (.getfield 7, [7, 0, 640]) := rfl
theorem c156_133 : xCD 156 133 = some (.iconst 1, []) := rfl
theorem c156_134 : xCD 156 134 = some (.iaload, []) := rfl
theorem c156_135 : xCD 156 135 = some (.imul, []) := rfl
theorem c156_136 : xCD 156 136 = some (.iload_n 3, []) := rfl
theorem c156_137 : xCD 156 137 = some (.iadd, []) := rfl
theorem c156_138 : xCD 156 138 = some (.istore 4, []) := rfl
theorem c156_140 : xCD 156 140 = some (.iload_n 2, []) := rfl
theorem c156_141 : xCD 156 141 = some (.aload_n 0, []) := rfl
theorem c156_142 : xCD 156 142 = some (.aload_n 0, []) := rfl
theorem c156_143 : xCD 156 143 = some (.getfield 19, [7, 3, 643]) := rfl
theorem c156_146 : xCD 156 146 = some (.iload 4, []) := rfl
theorem c156_148 : xCD 156 148 = some (.invokevirtual 144, [125, 2, 0, 730, 732, 371, 731, 733]) := rfl
theorem c156_151 : xCD 156 151 = some (.aload_n 0, []) := rfl
theorem c156_152 : xCD 156 152 = some (.getfield 7, [7, 0, 640]) := rfl
theorem c156_155 : xCD 156 155 = some (.bipush 9, []) := rfl
theorem c156_157 : xCD 156 157 = some (.iload 4, []) := rfl
theorem c156_159 : xCD 156 159 = some (.iadd, []) := rfl
theorem c156_160 : xCD 156 160 = some (.iaload, []) := rfl
theorem c156_161 : xCD 156 161 = some (.if_icmp .ne 7, [168]) := rfl
theorem c156_164 : xCD 156 164 = some (.iconst 0, []) := rfl
theorem c156_165 : xCD 156 165 = some (.goto 6, [171]) := rfl
theorem c156_168 : xCD 156 168 = some (.iconst 1, []) := rfl
theorem c156_169 : xCD 156 169 = some (.iload_n 3, []) := rfl
theorem c156_170 : xCD 156 170 = some (.ishl, []) := rfl
theorem c156_171 : xCD 156 171 = some (.ior, []) := rfl
theorem c156_172 : xCD 156 172 = some (.istore_n 2, []) := rfl
theorem c156_173 : xCD 156 173 = some (.iinc 3 1, []) := rfl
theorem c156_176 : xCD 156 176 = some (.goto (-58), [118]) := rfl
theorem c156_179 : xCD 156 179 = some (.iload_n 2, []) := rfl
theorem c156_180 : xCD 156 180 = some (.ireturn, []) := rfl
theorem c157_0 : xCD 157 0 = some (.iload_n 1, []) := rfl
theorem c157_1 : xCD 157 1 = some (.i2l, []) := rfl
theorem c157_2 : xCD 157 2 = some (.lconst 0, []) := rfl
theorem c157_3 : xCD 157 3 = some (.ldc2_w 180, [3, 776]) := rfl
theorem c157_6 : xCD 157 6 = some (.invokestatic 53, [108, 3, 0, 672, 674, 371, 673]) := rfl
theorem c157_9 : xCD 157 9 = some (.ifCond .eq 15, [24]) := rfl
theorem c157_12 : xCD 157 12 = some (.iload_n 2, []) := rfl
theorem c157_13 : xCD 157 13 = some (.i2l, []) := rfl
theorem c157_14 : xCD 157 14 = some (.lconst 0, []) := rfl
theorem c157_15 : xCD 157 15 = some (.ldc2_w 213, [999, 803]) := rfl
theorem c157_18 : xCD 157 18 = some (.invokestatic 53, [108, 3, 0, 672, 674, 371, 673]) := rfl
theorem c157_21 : xCD 157 21 = some (.ifCond .ne 5, [26]) := rfl
theorem c157_24 : xCD 157 24 = some (.iconst (-1), []) := rfl
theorem c157_25 : xCD 157 25 = some (.ireturn, []) := rfl
theorem c157_26 : xCD 157 26 = some (.aload_n 0, []) := rfl
theorem c157_27 : xCD 157 27 = some (.getfield 124, [7, 11, 669]) := rfl
theorem c157_30 : xCD 157 30 = some (.bipush 6, []) := rfl
theorem c157_32 : xCD 157 32 = some (.if_icmp .ne 6, [38]) := rfl
theorem c157_35 : xCD 157 35 = some (.bipush (-3), []) := rfl
theorem c157_37 : xCD 157 37 = some (.ireturn, []) := rfl
theorem c157_38 : xCD 157 38 = some (.aload_n 0, []) := rfl
theorem c157_39 : xCD 157 39 = some (.getfield 31, [7, 10, 647]) := rfl
theorem c157_42 : xCD 157 42 = some (.iconst 2, []) := rfl
theorem c157_43 : xCD 157 43 = some (.aload_n 0, []) := rfl
theorem c157_44 : xCD 157 44 = some (.getfield 124, [7, 11, 669]) := rfl
theorem c157_47 : xCD 157 47 = some (.imul, []) := rfl
theorem c157_48 : xCD 157 48 = some (.iload_n 1, []) := rfl
theorem c157_49 : xCD 157 49 = some (.iastore, []) := rfl
theorem c157_50 : xCD 157 50 = some (.aload_n 0, []) := rfl
theorem c157_51 : xCD 157 51 = some (.getfield 31, [7, 10, 647]) := rfl
theorem c157_54 : xCD 157 54 = some (.iconst 2, []) := rfl
theorem c157_55 : xCD 157 55 = some (.aload_n 0, []) := rfl
theorem c157_56 : xCD 157 56 = some (.getfield 124, [7, 11, 669]) := rfl
theorem c157_59 : xCD 157 59 = some (.imul, []) := rfl
theorem c157_60 : xCD 157 60 = some (.iconst 1, []) := rfl
theorem c157_61 : xCD 157 61 = some (.iadd, []) := rfl
theorem c157_62 : xCD 157 62 = some (.iload_n 2, []) := rfl
theorem c157_63 : xCD 157 63 = some (.iastore, []) := rfl
theorem c157_64 : xCD 157 64 = some (.aload_n 0, []) := rfl
theorem c157_65 : xCD 157 65 = some (.dup, []) := rfl
theorem c157_66 : xCD 157 66 = some (.getfield 124, [7, 11, 669]) := rfl
theorem c157_69 : xCD 157 69 = some (.iconst 1, []) := rfl
theorem c157_70 : xCD 157 70 = some (.iadd, []) := rfl
theorem c157_71 : xCD 157 71 = some (.putfield 124, [7, 11, 669]) := rfl
theorem c157_74 : xCD 157 74 = some (.aload_n 0, []) := rfl
theorem c157_75 : xCD 157 75 = some (.getfield 124, [7, 11, 669]) := rfl
theorem c157_78 : xCD 157 78 = some (.ireturn, []) := rfl
theorem c158_0 : xCD 158 0 = some (.aload_n 0, []) := rfl
theorem c158_1 : xCD 158 1 = some (.getfield 124, [7, 11, 669]) := rfl
theorem c158_4 : xCD 158 4 = some (.istore_n 1, []) := rfl
theorem c158_5 : xCD 158 5 = some (.aload_n 0, []) := rfl
theorem c158_6 : xCD 158 6 = some (.iconst 0, []) := rfl
theorem c158_7 : xCD 158 7 = some (.putfield 124, [7, 11, 669]) := rfl
theorem c158_10 : xCD 158 10 = some (.iload_n 1, []) := rfl
theorem c158_11 : xCD 158 11 = some (.ireturn, []) := rfl
theorem c159_0 : xCD 159 0 = some (.iload_n 1, []) := rfl
theorem c159_1 : xCD 159 1 = some (.invokestatic 188, [148, 1, 0, 781, 783, 371, 782]) := rfl
theorem c159_4 : xCD 159 4 = some (.ifCond .ne 5, [9]) := rfl
theorem c159_7 : xCD 159 7 = some (.iconst (-1), []) := rfl
theorem c159_8 : xCD 159 8 = some (.ireturn, []) := rfl
theorem c159_9 : xCD 159 9 = some (.iconst 0, []) := rfl
theorem c159_10 : xCD 159 10 = some (.istore_n 2, []) := rfl
theorem c159_11 : xCD 159 11 = some (.bipush (-4), []) := rfl
theorem c159_13 : xCD 159 13 = some (.istore_n 3, []) := rfl
theorem c159_14 : xCD 159 14 = some (.iconst 0, []) := rfl
theorem c159_15 : xCD 159 15 = some (.istore 4, []) := rfl
theorem c159_17 : xCD 159 17 = some (.iload 4, []) := rfl
theorem c159_19 : xCD 159 19 = some (.aload_n 0, []) := rfl
theorem c159_20 : xCD 159 20 = some (.invokevirtual 130, [122, 0, 0, 722, 724, 371, 723, 725]) := rfl
theorem c159_23 : xCD 159 23 = some (.if_icmp .ge 92, [115]) := rfl
theorem c159_26 : xCD 159 26 = some (.iload 4, []) := rfl
theorem c159_28 : xCD 159 28 = some (.iconst 1, []) := rfl
theorem c159_29 : xCD 159 29 = some (.iadd, []) := rfl
theorem c159_30 : xCD 159 30 = some (.istore 5, []) := rfl
theorem c159_32 : xCD 159 32 = some (.iload 5, []) := rfl
theorem c159_34 : xCD 159 34 = some (.aload_n 0, []) := rfl
theorem c159_35 : xCD 159 35 = some (.invokevirtual 130, [122, 0, 0, 722, 724, 371, 723, 725]) := rfl
theorem c159_38 : xCD 159 38 = some (.if_icmp .ge 71, [109]) := rfl
theorem c159_41 : xCD 159 41 = some (.aload_n 0, []) := rfl
theorem c159_42 : xCD 159 42 = some (.getfield 16, [7, 2, 642]) := rfl
theorem c159_45 : xCD 159 45 = some (.iconst 0, []) := rfl
theorem c159_46 : xCD 159 46 = some (.iload 4, []) := rfl
theorem c159_48 : xCD 159 48 = some (.iadd, []) := rfl
theorem c159_49 : xCD 159 49 = some (.iaload, []) := rfl
theorem c159_50 : xCD 159 50 = some (.aload_n 0, []) := rfl
theorem c159_51 : xCD 159 51 = some (.getfield 16, [7, 2, 642]) := rfl
theorem c159_54 : xCD 159 54 = some (.iconst 0, []) := rfl
theorem c159_55 : xCD 159 55 = some (.iload 5, []) := rfl
theorem c159_57 : xCD 159 57 = some (.iadd, []) := rfl
theorem c159_58 : xCD 159 58 = some (.iaload, []) := rfl
theorem c159_59 : xCD 159 59 = some (.if_icmp .eq 44, [103]) := rfl
theorem c159_62 : xCD 159 62 = some (.aload_n 0, []) := rfl
theorem c159_63 : xCD 159 63 = some (.invokevirtual 191, [149, 0, 0, 784, 786, 371, 785, 787]) := rfl
theorem c159_66 : xCD 159 66 = some (.aload_n 0, []) := rfl
theorem c159_67 : xCD 159 67 = some (.iload 4, []) := rfl
theorem c159_69 : xCD 159 69 = some (.iload 5, []) := rfl
theorem c159_71 : xCD 159 71 = some (.invokevirtual 215, [160, 2, 0, 804, 806, 371, 805, 807]) := rfl
theorem c159_74 : xCD 159 74 = some (.aload_n 0, []) := rfl
theorem c159_75 : xCD 159 75 = some (.invokevirtual 218, [161, 0, 0, 808, 810, 371, 809, 811]) := rfl
theorem c159_78 : xCD 159 78 = some (.ifCond .eq 25, [103]) := rfl
theorem c159_81 : xCD 159 81 = some (.iinc 2 1, []) := rfl
theorem c159_84 : xCD 159 84 = some (.iload_n 3, []) := rfl
theorem c159_85 : xCD 159 85 = some (.bipush (-4), []) := rfl
theorem c159_87 : xCD 159 87 = some (.if_icmp .ne 14, [101]) := rfl
theorem c159_90 : xCD 159 90 = some (.bipush 100, []) := rfl
theorem c159_92 : xCD 159 92 = some (.iload 4, []) := rfl
theorem c159_94 : xCD 159 94 = some (.imul, []) := rfl
theorem c159_95 : xCD 159 95 = some (.iload 5, []) := rfl
theorem c159_97 : xCD 159 97 = some (.iadd, []) := rfl
theorem c159_98 : xCD 159 98 = some (.goto 4, [102]) := rfl
theorem c159_101 : xCD 159 101 = some (.iload_n 3, []) := rfl
theorem c159_102 : xCD 159 102 = some (.istore_n 3, []) := rfl
theorem c159_103 : xCD 159 103 = some (.iinc 5 1, []) := rfl
theorem c159_106 : xCD 159 106 = some (.goto (-74), [32]) := rfl
theorem c159_109 : xCD 159 109 = some (.iinc 4 1, []) := rfl
theorem c159_112 : xCD 159 112 = some (.goto (-95), [17]) := rfl
theorem c159_115 : xCD 159 115 = some (.iload_n 1, []) := rfl
theorem c159_116 : xCD 159 116 = some (.ifCond .ne 7, [123]) := rfl
theorem c159_119 : xCD 159 119 = some (.iload_n 2, []) := rfl
theorem c159_120 : xCD 159 120 = some (.goto 4, [124]) := rfl
theorem c159_123 : xCD 159 123 = some (.iload_n 3, []) := rfl
theorem c159_124 : xCD 159 124 = some (.ireturn, []) := rfl
theorem c160_0 : xCD 160 0 = some (.aload_n 0, []) := rfl
theorem c160_1 : xCD 160 1 = some (.getfield 19, [7, 3, 643]) := rfl
theorem c160_4 : xCD 160 4 = some (.iconst 0, []) := rfl
theorem c160_5 : xCD 160 5 = some (.iload_n 1, []) := rfl
theorem c160_6 : xCD 160 6 = some (.iadd, []) := rfl
theorem c160_7 : xCD 160 7 = some (.aload_n 0, []) := rfl
theorem c160_8 : xCD 160 8 = some (.getfield 16, [7, 2, 642]) := rfl
theorem c160_11 : xCD 160 11 = some (.iconst 0, []) := rfl
theorem c160_12 : xCD 160 12 = some (.iload_n 2, []) := rfl
theorem c160_13 : xCD 160 13 = some (.iadd, []) := rfl
theorem c160_14 : xCD 160 14 = some (.iaload, []) := rfl
theorem c160_15 : xCD 160 15 = some (.iastore, []) := rfl
theorem c160_16 : xCD 160 16 = some (.aload_n 0, []) := rfl
theorem c160_17 : xCD 160 17 = some (.getfield 19, [7, 3, 643]) := rfl
theorem c160_20 : xCD 160 20 = some (.iconst 0, []) := rfl
theorem c160_21 : xCD 160 21 = some (.iload_n 2, []) := rfl
theorem c160_22 : xCD 160 22 = some (.iadd, []) := rfl
theorem c160_23 : xCD 160 23 = some (.aload_n 0, []) := rfl
theorem c160_24 : xCD 160 24 = some (.getfield 16, [7, 2, 642]) := rfl
theorem c160_27 : xCD 160 27 = some (.iconst 0, []) := rfl
theorem c160_28 : xCD 160 28 = some (.iload_n 1, []) := rfl
theorem c160_29 : xCD 160 29 = some (.iadd, []) := rfl
theorem c160_30 : xCD 160 30 = some (.iaload, []) := rfl
theorem c160_31 : xCD 160 31 = some (.iastore, []) := rfl
theorem c160_32 : xCD 160 32 = some (.aload_n 0, []) := rfl
theorem c160_33 : xCD 160 33 = some (.getfield 19, [7, 3, 643]) := rfl
theorem c160_36 : xCD 160 36 = some (.bipush 36, []) := rfl
theorem c160_38 : xCD 160 38 = some (.iload_n 1, []) := rfl
theorem c160_39 : xCD 160 39 = some (.iadd, []) := rfl
theorem c160_40 : xCD 160 40 = some (.aload_n 0, []) := rfl
theorem c160_41 : xCD 160 41 = some (.getfield 16, [7, 2, 642]) := rfl
theorem c160_44 : xCD 160 44 = some (.bipush 36, []) := rfl
theorem c160_46 : xCD 160 46 = some (.iload_n 2, []) := rfl
theorem c160_47 : xCD 160 47 = some (.iadd, []) := rfl
theorem c160_48 : xCD 160 48 = some (.iaload, []) := rfl
theorem c160_49 : xCD 160 49 = some (.iastore, []) := rfl
theorem c160_50 : xCD 160 50 = some (.aload_n 0, []) := rfl
theorem c160_51 : xCD 160 51 = some (.getfield 19, [7, 3, 643]) := rfl
theorem c160_54 : xCD 160 54 = some (.bipush 36, []) := rfl
theorem c160_56 : xCD 160 56 = some (.iload_n 2, []) := rfl
theorem c160_57 : xCD 160 57 = some (.iadd, []) := rfl
theorem c160_58 : xCD 160 58 = some (.aload_n 0, []) := rfl
theorem c160_59 : xCD 160 59 = some (.getfield 16, [7, 2, 642]) := rfl
theorem c160_62 : xCD 160 62 = some (.bipush 36, []) := rfl
theorem c160_64 : xCD 160 64 = some (.iload_n 1, []) := rfl
theorem c160_65 : xCD 160 65 = some (.iadd, []) := rfl
theorem c160_66 : xCD 160 66 = some (.iaload, []) := rfl
theorem c160_67 : xCD 160 67 = some (.iastore, []) := rfl
theorem c160_68 : xCD 160 68 = some (.return_, []) := rfl
theorem c161_0 : xCD 161 0 = some (.iconst 1, []) := rfl
theorem c161_1 : xCD 161 1 = some (.istore_n 1, []) := rfl
theorem c161_2 : xCD 161 2 = some (.iconst 0, []) := rfl
theorem c161_3 : xCD 161 3 = some (.istore_n 2, []) := rfl
theorem c161_4 : xCD 161 4 = some (.iload_n 2, []) := rfl
theorem c161_5 : xCD 161 5 = some (.aload_n 0, []) := rfl
theorem c161_6 : xCD 161 6 = some (.getfield 124, [7, 11, 669]) := rfl
theorem c161_9 : xCD 161 9 = some (.if_icmp .ge 55, [64]) := rfl
theorem c161_12 : xCD 161 12 = some (.iload_n 1, []) := rfl
theorem c161_13 : xCD 161 13 = some (.ifCond .eq 51, [64]) := rfl
theorem c161_16 : xCD 161 16 = some (.aload_n 0, []) := rfl
theorem c161_17 : xCD 161 17 = some (.getfield 19, [7, 3, 643]) := rfl
theorem c161_20 : xCD 161 20 = some (.bipush 108, []) := rfl
theorem c161_22 : xCD 161 22 = some (.aload_n 0, []) := rfl
theorem c161_23 : xCD 161 23 = some (.getfield 31, [7, 10, 647]) := rfl
theorem c161_26 : xCD 161 26 = some (.iconst 2, []) := rfl
theorem c161_27 : xCD 161 27 = some (.iload_n 2, []) := rfl
theorem c161_28 : xCD 161 28 = some (.imul, []) := rfl
theorem c161_29 : xCD 161 29 = some (.iaload, []) := rfl
theorem c161_30 : xCD 161 30 = some (.iastore, []) := rfl
theorem c161_31 : xCD 161 31 = some (.aload_n 0, []) := rfl
theorem c161_32 : xCD 161 32 = some (.aload_n 0, []) := rfl
theorem c161_33 : xCD 161 33 = some (.getfield 19, [7, 3, 643]) := rfl
theorem c161_36 : xCD 161 36 = some (.invokevirtual 157, [133, 1, 0, 756, 758, 371, 757, 759]) := rfl
theorem c161_39 : xCD 161 39 = some (.aload_n 0, []) := rfl
theorem c161_40 : xCD 161 40 = some (.getfield 31, [7, 10, 647]) := rfl
theorem c161_43 : xCD 161 43 = some (.iconst 2, []) := rfl
theorem c161_44 : xCD 161 44 = some (.iload_n 2, []) := rfl
theorem c161_45 : xCD 161 45 = some (.imul, []) := rfl
theorem c161_46 : xCD 161 46 = some (.iconst 1, []) := rfl
theorem c161_47 : xCD 161 47 = some (.iadd, []) := rfl
theorem c161_48 : xCD 161 48 = some (.iaload, []) := rfl
theorem c161_49 : xCD 161 49 = some (.if_icmp .ne 7, [56]) := rfl
theorem c161_52 : xCD 161 52 = some (.iconst 1, []) := rfl
theorem c161_53 : xCD 161 53 = some (.goto 4, [57]) := rfl
theorem c161_56 : xCD 161 56 = some (.iconst 0, []) := rfl
theorem c161_57 : xCD 161 57 = some (.istore_n 1, []) := rfl
theorem c161_58 : xCD 161 58 = some (.iinc 2 1, []) := rfl
theorem c161_61 : xCD 161 61 = some (.goto (-57), [4]) := rfl
theorem c161_64 : xCD 161 64 = some (.iload_n 1, []) := rfl
theorem c161_65 : xCD 161 65 = some (.ireturn, []) := rfl
theorem c162_0 : xCD 162 0 = some (.iload_n 1, []) := rfl
theorem c162_1 : xCD 162 1 = some (.invokestatic 188, [148, 1, 0, 781, 783, 371, 782]) := rfl
theorem c162_4 : xCD 162 4 = some (.ifCond .ne 5, [9]) := rfl
theorem c162_7 : xCD 162 7 = some (.iconst (-1), []) := rfl
theorem c162_8 : xCD 162 8 = some (.ireturn, []) := rfl
theorem c162_9 : xCD 162 9 = some (.iconst 0, []) := rfl
theorem c162_10 : xCD 162 10 = some (.istore_n 2, []) := rfl
theorem c162_11 : xCD 162 11 = some (.bipush (-4), []) := rfl
theorem c162_13 : xCD 162 13 = some (.istore_n 3, []) := rfl
theorem c162_14 : xCD 162 14 = some (.iconst 0, []) := rfl
theorem c162_15 : xCD 162 15 = some (.istore 4, []) := rfl
theorem c162_17 : xCD 162 17 = some (.iload 4, []) := rfl
theorem c162_19 : xCD 162 19 = some (.aload_n 0, []) := rfl
theorem c162_20 : xCD 162 20 = some (.invokevirtual 130, [122, 0, 0, 722, 724, 371, 723, 725]) := rfl
theorem c162_23 : xCD 162 23 = some (.if_icmp .ge 45, [68]) := rfl
theorem c162_26 : xCD 162 26 = some (.aload_n 0, []) := rfl
theorem c162_27 : xCD 162 27 = some (.invokevirtual 191, [149, 0, 0, 784, 786, 371, 785, 787]) := rfl
theorem c162_30 : xCD 162 30 = some (.aload_n 0, []) := rfl
theorem c162_31 : xCD 162 31 = some (.getfield 19, [7, 3, 643]) := rfl
theorem c162_34 : xCD 162 34 = some (.bipush 109, []) := rfl
theorem c162_36 : xCD 162 36 = some (.iload 4, []) := rfl
theorem c162_38 : xCD 162 38 = some (.iastore, []) := rfl
theorem c162_39 : xCD 162 39 = some (.aload_n 0, []) := rfl
theorem c162_40 : xCD 162 40 = some (.invokevirtual 218, [161, 0, 0, 808, 810, 371, 809, 811]) := rfl
theorem c162_43 : xCD 162 43 = some (.ifCond .eq 19, [62]) := rfl
theorem c162_46 : xCD 162 46 = some (.iinc 2 1, []) := rfl
theorem c162_49 : xCD 162 49 = some (.iload_n 3, []) := rfl
theorem c162_50 : xCD 162 50 = some (.bipush (-4), []) := rfl
theorem c162_52 : xCD 162 52 = some (.if_icmp .ne 8, [60]) := rfl
theorem c162_55 : xCD 162 55 = some (.iload 4, []) := rfl
theorem c162_57 : xCD 162 57 = some (.goto 4, [61]) := rfl
theorem c162_60 : xCD 162 60 = some (.iload_n 3, []) := rfl
theorem c162_61 : xCD 162 61 = some (.istore_n 3, []) := rfl
theorem c162_62 : xCD 162 62 = some (.iinc 4 1, []) := rfl
theorem c162_65 : xCD 162 65 = some (.goto (-48), [17]) := rfl
theorem c162_68 : xCD 162 68 = some (.iload_n 1, []) := rfl
theorem c162_69 : xCD 162 69 = some (.ifCond .ne 7, [76]) := rfl
theorem c162_72 : xCD 162 72 = some (.iload_n 2, []) := rfl
theorem c162_73 : xCD 162 73 = some (.goto 4, [77]) := rfl
theorem c162_76 : xCD 162 76 = some (.iload_n 3, []) := rfl
theorem c162_77 : xCD 162 77 = some (.ireturn, []) := rfl
theorem c163_0 : xCD 163 0 = some (.aload_n 0, []) := rfl
theorem c163_1 : xCD 163 1 = some (.iload_n 1, []) := rfl
theorem c163_2 : xCD 163 2 = some (.invokevirtual 161, [124, 1, 0, 726, 728, 371, 727, 729]) := rfl
theorem c163_5 : xCD 163 5 = some (.ifCond .ne 5, [10]) := rfl
theorem c163_8 : xCD 163 8 = some (.iconst (-1), []) := rfl
theorem c163_9 : xCD 163 9 = some (.ireturn, []) := rfl
theorem c163_10 : xCD 163 10 = some (.aload_n 0, []) := rfl
theorem c163_11 : xCD 163 11 = some (.getfield 7, [7, 0, 640]) := rfl
theorem c163_14 : xCD 163 14 = some (.bipush 9, []) := rfl
theorem c163_16 : xCD 163 16 = some (.iload_n 1, []) := rfl
theorem c163_17 : xCD 163 17 = some (.iadd, []) := rfl
theorem c163_18 : xCD 163 18 = some (.iaload, []) := rfl
theorem c163_19 : xCD 163 19 = some (.istore_n 2, []) := rfl
theorem c163_20 : xCD 163 20 = some (.iconst 0, []) := rfl
theorem c163_21 : xCD 163 21 = some (.istore_n 3, []) := rfl
theorem c163_22 : xCD 163 22 = some (.iconst 0, []) := rfl
theorem c163_23 : xCD 163 23 = some (.istore 4, []) := rfl
theorem c163_25 : xCD 163 25 = some (.iload 4, []) := rfl
theorem c163_27 : xCD 163 27 = some (.bipush 8, []) := rfl
theorem c163_29 : xCD 163 29 = some (.if_icmp .ge 42, [71]) := rfl
theorem c163_32 : xCD 163 32 = some (.aload_n 0, []) := rfl
theorem c163_33 : xCD 163 33 = some (.invokevirtual 191, [149, 0, 0, 784, 786, 371, 785, 787]) := rfl
theorem c163_36 : xCD 163 36 = some (.aload_n 0, []) := rfl
theorem c163_37 : xCD 163 37 = some (.getfield 7, [7, 0, 640]) := rfl
theorem c163_40 : xCD 163 40 = some (.bipush 9, []) := rfl
theorem c163_42 : xCD 163 42 = some (.iload_n 1, []) := rfl
theorem c163_43 : xCD 163 43 = some (.iadd, []) := rfl
theorem c163_44 : xCD 163 44 = some (.iload 4, []) := rfl
theorem c163_46 : xCD 163 46 = some (.iastore, []) := rfl
theorem c163_47 : xCD 163 47 = some (.iload_n 3, []) := rfl
theorem c163_48 : xCD 163 48 = some (.aload_n 0, []) := rfl
theorem c163_49 : xCD 163 49 = some (.invokevirtual 218, [161, 0, 0, 808, 810, 371, 809, 811]) := rfl
theorem c163_52 : xCD 163 52 = some (.ifCond .eq 10, [62]) := rfl
theorem c163_55 : xCD 163 55 = some (.iconst 1, []) := rfl
theorem c163_56 : xCD 163 56 = some (.iload 4, []) := rfl
theorem c163_58 : xCD 163 58 = some (.ishl, []) := rfl
theorem c163_59 : xCD 163 59 = some (.goto 4, [63]) := rfl
theorem c163_62 : xCD 163 62 = some (.iconst 0, []) := rfl
theorem c163_63 : xCD 163 63 = some (.ior, []) := rfl
theorem c163_64 : xCD 163 64 = some (.istore_n 3, []) := rfl
theorem c163_65 : xCD 163 65 = some (.iinc 4 1, []) := rfl
theorem c163_68 : xCD 163 68 = some (.goto (-43), [25]) := rfl
theorem c163_71 : xCD 163 71 = some (.aload_n 0, []) := rfl
theorem c163_72 : xCD 163 72 = some (.getfield 7, [7, 0, 640]) := rfl
theorem c163_75 : xCD 163 75 = some (.bipush 9, []) := rfl
theorem c163_77 : xCD 163 77 = some (.iload_n 1, []) := rfl
theorem c163_78 : xCD 163 78 = some (.iadd, []) := rfl
theorem c163_79 : xCD 163 79 = some (.iload_n 2, []) := rfl
theorem c163_80 : xCD 163 80 = some (.iastore, []) := rfl
theorem c163_81 : xCD 163 81 = some (.iload_n 3, []) := rfl
theorem c163_82 : xCD 163 82 = some (.ireturn, []) := rfl
theorem c164_0 : xCD 164 0 = some (.iload_n 1, []) := rfl
theorem c164_1 : xCD 164 1 = some (.i2l, []) := rfl
theorem c164_2 : xCD 164 2 = some (.lconst 0, []) := rfl
theorem c164_3 : xCD 164 3 = some (.ldc2_w 180, [3, 776]) := rfl
theorem c164_6 : xCD 164 6 = some (.invokestatic 53, [108, 3, 0, 672, 674, 371, 673]) := rfl
theorem c164_9 : xCD 164 9 = some (.ifCond .eq 11, [20]) := rfl
theorem c164_12 : xCD 164 12 = some (.aload_n 0, []) := rfl
theorem c164_13 : xCD 164 13 = some (.iload_n 1, []) := rfl
theorem c164_14 : xCD 164 14 = some (.invokevirtual 221, [165, 1, 0, 812, 814, 371, 813, 815]) := rfl
theorem c164_17 : xCD 164 17 = some (.goto 4, [21]) := rfl
theorem c164_20 : xCD 164 20 = some (.iconst (-1), []) := rfl
theorem c164_21 : xCD 164 21 = some (.ireturn, []) := rfl
theorem c165_0 : xCD 165 0 = some (.aload_n 0, []) := rfl
theorem c165_1 : xCD 165 1 = some (.invokevirtual 191, [149, 0, 0, 784, 786, 371, 785, 787]) := rfl
theorem c165_4 : xCD 165 4 = some (.aload_n 0, []) := rfl
theorem c165_5 : xCD 165 5 = some (.getfield 19, [7, 3, 643]) := rfl
theorem c165_8 : xCD 165 8 = some (.bipush 108, []) := rfl
theorem c165_10 : xCD 165 10 = some (.iload_n 1, []) := rfl
theorem c165_11 : xCD 165 11 = some (.iastore, []) := rfl
theorem c165_12 : xCD 165 12 = some (.aload_n 0, []) := rfl
theorem c165_13 : xCD 165 13 = some (.aload_n 0, []) := rfl
theorem c165_14 : xCD 165 14 = some (.getfield 19, [7, 3, 643]) := rfl
theorem c165_17 : xCD 165 17 = some (.invokevirtual 157, [133, 1, 0, 756, 758, 371, 757, 759]) := rfl
theorem c165_20 : xCD 165 20 = some (.ireturn, []) := rfl
theorem c166_0 : xCD 166 0 = some (.iload_n 1, []) := rfl
theorem c166_1 : xCD 166 1 = some (.invokestatic 188, [148, 1, 0, 781, 783, 371, 782]) := rfl
theorem c166_4 : xCD 166 4 = some (.ifCond .ne 5, [9]) := rfl
theorem c166_7 : xCD 166 7 = some (.iconst (-1), []) := rfl
theorem c166_8 : xCD 166 8 = some (.ireturn, []) := rfl
theorem c166_9 : xCD 166 9 = some (.iconst 0, []) := rfl
theorem c166_10 : xCD 166 10 = some (.istore_n 2, []) := rfl
theorem c166_11 : xCD 166 11 = some (.iconst 0, []) := rfl
theorem c166_12 : xCD 166 12 = some (.istore_n 3, []) := rfl
theorem c166_13 : xCD 166 13 = some (.iload_n 3, []) := rfl
theorem c166_14 : xCD 166 14 = some (.iconst 4, []) := rfl
theorem c166_15 : xCD 166 15 = some (.if_icmp .ge 38, [53]) := rfl
theorem c166_18 : xCD 166 18 = some (.iload_n 2, []) := rfl
theorem c166_19 : xCD 166 19 = some (.aload_n 0, []) := rfl
theorem c166_20 : xCD 166 20 = some (.iload_n 3, []) := rfl
theorem c166_21 : xCD 166 21 = some (.invokevirtual 221, [165, 1, 0, 812, 814, 371, 813, 815]) := rfl
theorem c166_24 : xCD 166 24 = some (.aload_n 0, []) := rfl
theorem c166_25 : xCD 166 25 = some (.getfield 7, [7, 0, 640]) := rfl
theorem c166_28 : xCD 166 28 = some (.iconst 2, []) := rfl
theorem c166_29 : xCD 166 29 = some (.iaload, []) := rfl
theorem c166_30 : xCD 166 30 = some (.if_icmp .gt 14, [44]) := rfl
theorem c166_33 : xCD 166 33 = some (.aload_n 0, []) := rfl
theorem c166_34 : xCD 166 34 = some (.getfield 7, [7, 0, 640]) := rfl
theorem c166_37 : xCD 166 37 = some (.iconst 3, []) := rfl
theorem c166_38 : xCD 166 38 = some (.iload_n 3, []) := rfl
theorem c166_39 : xCD 166 39 = some (.iadd, []) := rfl
theorem c166_40 : xCD 166 40 = some (.iaload, []) := rfl
theorem c166_41 : xCD 166 41 = some (.goto 4, [45]) := rfl
theorem c166_44 : xCD 166 44 = some (.iconst 0, []) := rfl
theorem c166_45 : xCD 166 45 = some (.iadd, []) := rfl
theorem c166_46 : xCD 166 46 = some (.istore_n 2, []) := rfl
theorem c166_47 : xCD 166 47 = some (.iinc 3 1, []) := rfl
theorem c166_50 : xCD 166 50 = some (.goto (-37), [13]) := rfl
theorem c166_53 : xCD 166 53 = some (.iload_n 2, []) := rfl
theorem c166_54 : xCD 166 54 = some (.istore_n 3, []) := rfl
theorem c166_55 : xCD 166 55 = some (.bipush 10, []) := rfl
theorem c166_57 : xCD 166 57 = some (.istore 4, []) := rfl
theorem c166_59 : xCD 166 59 = some (.iload 4, []) := rfl
theorem c166_61 : xCD 166 61 = some (.ifCond .eq 19, [80]) := rfl
theorem c166_64 : xCD 166 64 = some (.iload_n 3, []) := rfl
theorem c166_65 : xCD 166 65 = some (.iload 4, []) := rfl
theorem c166_67 : xCD 166 67 = some (.irem, []) := rfl
theorem c166_68 : xCD 166 68 = some (.istore 5, []) := rfl
theorem c166_70 : xCD 166 70 = some (.iload 4, []) := rfl
theorem c166_72 : xCD 166 72 = some (.istore_n 3, []) := rfl
theorem c166_73 : xCD 166 73 = some (.iload 5, []) := rfl
theorem c166_75 : xCD 166 75 = some (.istore 4, []) := rfl
theorem c166_77 : xCD 166 77 = some (.goto (-18), [59]) := rfl
theorem c166_80 : xCD 166 80 = some (.iload_n 1, []) := rfl
theorem c166_81 : xCD 166 81 = some (.ifCond .ne 9, [90]) := rfl
theorem c166_84 : xCD 166 84 = some (.iload_n 2, []) := rfl
theorem c166_85 : xCD 166 85 = some (.iload_n 3, []) := rfl
theorem c166_86 : xCD 166 86 = some (.idiv, []) := rfl
theorem c166_87 : xCD 166 87 = some (.goto 7, [94]) := rfl
theorem c166_90 : xCD 166 90 = some (.bipush 10, []) := rfl
theorem c166_92 : xCD 166 92 = some (.iload_n 3, []) := rfl
theorem c166_93 : xCD 166 93 = some (.idiv, []) := rfl
theorem c166_94 : xCD 166 94 = some (.ireturn, []) := rfl
theorem c167_0 : xCD 167 0 = some (.iload_n 1, []) := rfl
theorem c167_1 : xCD 167 1 = some (.i2l, []) := rfl
theorem c167_2 : xCD 167 2 = some (.lconst 0, []) := rfl
theorem c167_3 : xCD 167 3 = some (.ldc2_w 224, [9999, 816]) := rfl
theorem c167_6 : xCD 167 6 = some (.invokestatic 53, [108, 3, 0, 672, 674, 371, 673]) := rfl
theorem c167_9 : xCD 167 9 = some (.ifCond .eq 22, [31]) := rfl
theorem c167_12 : xCD 167 12 = some (.iload_n 2, []) := rfl
theorem c167_13 : xCD 167 13 = some (.i2l, []) := rfl
theorem c167_14 : xCD 167 14 = some (.lconst 1, []) := rfl
theorem c167_15 : xCD 167 15 = some (.ldc2_w 226, [40, 817]) := rfl
theorem c167_18 : xCD 167 18 = some (.invokestatic 53, [108, 3, 0, 672, 674, 371, 673]) := rfl
theorem c167_21 : xCD 167 21 = some (.ifCond .eq 10, [31]) := rfl
theorem c167_24 : xCD 167 24 = some (.iload_n 3, []) := rfl
theorem c167_25 : xCD 167 25 = some (.invokestatic 188, [148, 1, 0, 781, 783, 371, 782]) := rfl
theorem c167_28 : xCD 167 28 = some (.ifCond .ne 5, [33]) := rfl
theorem c167_31 : xCD 167 31 = some (.iconst (-1), []) := rfl
theorem c167_32 : xCD 167 32 = some (.ireturn, []) := rfl
theorem c167_33 : xCD 167 33 = some (.aload_n 0, []) := rfl
theorem c167_34 : xCD 167 34 = some (.invokevirtual 191, [149, 0, 0, 784, 786, 371, 785, 787]) := rfl
theorem c167_37 : xCD 167 37 = some (.iconst 0, []) := rfl
theorem c167_38 : xCD 167 38 = some (.istore 4, []) := rfl
theorem c167_40 : xCD 167 40 = some (.iconst 0, []) := rfl
theorem c167_41 : xCD 167 41 = some (.istore 5, []) := rfl
theorem c167_43 : xCD 167 43 = some (.iconst 0, []) := rfl
theorem c167_44 : xCD 167 44 = some (.istore 6, []) := rfl
theorem c167_46 : xCD 167 46 = some (.iload 6, []) := rfl
theorem c167_48 : xCD 167 48 = some (.iload_n 2, []) := rfl
theorem c167_49 : xCD 167 49 = some (.if_icmp .ge 145, [194]) := rfl
theorem c167_52 : xCD 167 52 = some (.ldc2_w 228, [7919, 818]) := rfl
theorem c167_55 : xCD 167 55 = some (.iload_n 1, []) := rfl
theorem c167_56 : xCD 167 56 = some (.i2l, []) := rfl
theorem c167_57 : xCD 167 57 = some (.lmul, []) := rfl
theorem c167_58 : xCD 167 58 = some (.ldc2_w 230, [6151, 819]) := rfl
theorem c167_61 : xCD 167 61 = some (.iload 6, []) := rfl
theorem c167_63 : xCD 167 63 = some (.i2l, []) := rfl
theorem c167_64 : xCD 167 64 = some (.lmul, []) := rfl
theorem c167_65 : xCD 167 65 = some (.ladd, []) := rfl
theorem c167_66 : xCD 167 66 = some (.lconst 1, []) := rfl
theorem c167_67 : xCD 167 67 = some (.ladd, []) := rfl
theorem c167_68 : xCD 167 68 = some (.lstore 7, []) := rfl
theorem c167_70 : xCD 167 70 = some (.lload 7, []) := rfl
theorem c167_72 : xCD 167 72 = some (.lload 7, []) := rfl
theorem c167_74 : xCD 167 74 = some (.lmul, []) := rfl
theorem c167_75 : xCD 167 75 = some (.ldc2_w 232, [65521, 820]) := rfl
theorem c167_78 : xCD 167 78 = some (.lrem, []) := rfl
theorem c167_79 : xCD 167 79 = some (.l2i, []) := rfl
theorem c167_80 : xCD 167 80 = some (.iconst 2, []) := rfl
theorem c167_81 : xCD 167 81 = some (.idiv, []) := rfl
theorem c167_82 : xCD 167 82 = some (.istore 9, []) := rfl
theorem c167_84 : xCD 167 84 = some (.iload 9, []) := rfl
theorem c167_86 : xCD 167 86 = some (.aload_n 0, []) := rfl
theorem c167_87 : xCD 167 87 = some (.invokevirtual 130, [122, 0, 0, 722, 724, 371, 723, 725]) := rfl
theorem c167_90 : xCD 167 90 = some (.irem, []) := rfl
theorem c167_91 : xCD 167 91 = some (.istore 10, []) := rfl
theorem c167_93 : xCD 167 93 = some (.iload 9, []) := rfl
theorem c167_95 : xCD 167 95 = some (.bipush 8, []) := rfl
theorem c167_97 : xCD 167 97 = some (.idiv, []) := rfl
theorem c167_98 : xCD 167 98 = some (.bipush 8, []) := rfl
theorem c167_100 : xCD 167 100 = some (.irem, []) := rfl
theorem c167_101 : xCD 167 101 = some (.istore 11, []) := rfl
theorem c167_103 : xCD 167 103 = some (.aload_n 0, []) := rfl
theorem c167_104 : xCD 167 104 = some (.getfield 19, [7, 3, 643]) := rfl
theorem c167_107 : xCD 167 107 = some (.iconst 0, []) := rfl
theorem c167_108 : xCD 167 108 = some (.iload 10, []) := rfl
theorem c167_110 : xCD 167 110 = some (.iadd, []) := rfl
theorem c167_111 : xCD 167 111 = some (.iaload, []) := rfl
theorem c167_112 : xCD 167 112 = some (.iload 11, []) := rfl
theorem c167_114 : xCD 167 114 = some (.if_icmp .eq 14, [128]) := rfl
theorem c167_117 : xCD 167 117 = some (.aload_n 0, []) := rfl
theorem c167_118 : xCD 167 118 = some (.getfield 19, [7, 3, 643]) := rfl
theorem c167_121 : xCD 167 121 = some (.iload 10, []) := rfl
theorem c167_123 : xCD 167 123 = some (.iload 11, []) := rfl
theorem c167_125 : xCD 167 125 = some (.invokestatic 174, [138, 3, 0, 772, 774, 371, 773]) := rfl
theorem c167_128 : xCD 167 128 = some (.aload_n 0, []) := rfl
theorem c167_129 : xCD 167 129 = some (.getfield 19, [7, 3, 643]) := rfl
theorem c167_132 : xCD 167 132 = some (.iconst 1, []) := rfl
theorem c167_133 : xCD 167 133 = some (.invokestatic 184, [145, 2, 0, 778, 780, 371, 779]) := rfl
theorem c167_136 : xCD 167 136 = some (.aload_n 0, []) := rfl
theorem c167_137 : xCD 167 137 = some (.getfield 19, [7, 3, 643]) := rfl
theorem c167_140 : xCD 167 140 = some (.bipush 108, []) := rfl
theorem c167_142 : xCD 167 142 = some (.iload 9, []) := rfl
theorem c167_144 : xCD 167 144 = some (.bipush 64, []) := rfl
theorem c167_146 : xCD 167 146 = some (.idiv, []) := rfl
theorem c167_147 : xCD 167 147 = some (.iconst 4, []) := rfl
theorem c167_148 : xCD 167 148 = some (.irem, []) := rfl
theorem c167_149 : xCD 167 149 = some (.iastore, []) := rfl
theorem c167_150 : xCD 167 150 = some (.aload_n 0, []) := rfl
theorem c167_151 : xCD 167 151 = some (.aload_n 0, []) := rfl
theorem c167_152 : xCD 167 152 = some (.getfield 19, [7, 3, 643]) := rfl
theorem c167_155 : xCD 167 155 = some (.invokevirtual 157, [133, 1, 0, 756, 758, 371, 757, 759]) := rfl
theorem c167_158 : xCD 167 158 = some (.istore 12, []) := rfl
theorem c167_160 : xCD 167 160 = some (.iload 4, []) := rfl
theorem c167_162 : xCD 167 162 = some (.iload 12, []) := rfl
theorem c167_164 : xCD 167 164 = some (.aload_n 0, []) := rfl
theorem c167_165 : xCD 167 165 = some (.getfield 7, [7, 0, 640]) := rfl
theorem c167_168 : xCD 167 168 = some (.iconst 2, []) := rfl
theorem c167_169 : xCD 167 169 = some (.iaload, []) := rfl
theorem c167_170 : xCD 167 170 = some (.if_icmp .gt 7, [177]) := rfl
theorem c167_173 : xCD 167 173 = some (.iconst 1, []) := rfl
theorem c167_174 : xCD 167 174 = some (.goto 4, [178]) := rfl
theorem c167_177 : xCD 167 177 = some (.iconst 0, []) := rfl
theorem c167_178 : xCD 167 178 = some (.iadd, []) := rfl
theorem c167_179 : xCD 167 179 = some (.istore 4, []) := rfl
theorem c167_181 : xCD 167 181 = some (.iload 5, []) := rfl
theorem c167_183 : xCD 167 183 = some (.iload 12, []) := rfl
theorem c167_185 : xCD 167 185 = some (.iadd, []) := rfl
theorem c167_186 : xCD 167 186 = some (.istore 5, []) := rfl
theorem c167_188 : xCD 167 188 = some (.iinc 6 1, []) := rfl
theorem c167_191 : xCD 167 191 = some (.goto (-145), [46]) := rfl
theorem c167_194 : xCD 167 194 = some (.iload_n 3, []) := rfl
theorem c167_195 : xCD 167 195 = some (.ifCond .ne 8, [203]) := rfl
theorem c167_198 : xCD 167 198 = some (.iload 4, []) := rfl
theorem c167_200 : xCD 167 200 = some (.goto 5, [205]) := rfl
theorem c167_203 : xCD 167 203 = some (.iload 5, []) := rfl
theorem c167_205 : xCD 167 205 = some (.ireturn, []) := rfl
theorem c168_0 : xCD 168 0 = some (.aload_n 0, []) := rfl
theorem c168_1 : xCD 168 1 = some (.getfield 121, [7, 7, 668]) := rfl
theorem c168_4 : xCD 168 4 = some (.iconst 2, []) := rfl
theorem c168_5 : xCD 168 5 = some (.if_icmp .ne 6, [11]) := rfl
theorem c168_8 : xCD 168 8 = some (.bipush (-3), []) := rfl
theorem c168_10 : xCD 168 10 = some (.ireturn, []) := rfl
theorem c168_11 : xCD 168 11 = some (.aload_n 0, []) := rfl
theorem c168_12 : xCD 168 12 = some (.getfield 16, [7, 2, 642]) := rfl
theorem c168_15 : xCD 168 15 = some (.iconst 0, []) := rfl
theorem c168_16 : xCD 168 16 = some (.aload_n 0, []) := rfl
theorem c168_17 : xCD 168 17 = some (.getfield 25, [7, 6, 645]) := rfl
theorem c168_20 : xCD 168 20 = some (.bipush 111, []) := rfl
theorem c168_22 : xCD 168 22 = some (.aload_n 0, []) := rfl
theorem c168_23 : xCD 168 23 = some (.getfield 121, [7, 7, 668]) := rfl
theorem c168_26 : xCD 168 26 = some (.imul, []) := rfl
theorem c168_27 : xCD 168 27 = some (.bipush 111, []) := rfl
theorem c168_29 : xCD 168 29 = some (.invokestatic 92, [106, 5, 0, 664, 666, 371, 665]) := rfl
theorem c168_32 : xCD 168 32 = some (.aload_n 0, []) := rfl
theorem c168_33 : xCD 168 33 = some (.dup, []) := rfl
theorem c168_34 : xCD 168 34 = some (.getfield 121, [7, 7, 668]) := rfl
theorem c168_37 : xCD 168 37 = some (.iconst 1, []) := rfl
theorem c168_38 : xCD 168 38 = some (.iadd, []) := rfl
theorem c168_39 : xCD 168 39 = some (.putfield 121, [7, 7, 668]) := rfl
theorem c168_42 : xCD 168 42 = some (.aload_n 0, []) := rfl
theorem c168_43 : xCD 168 43 = some (.getfield 121, [7, 7, 668]) := rfl
theorem c168_46 : xCD 168 46 = some (.ireturn, []) := rfl
theorem c169_0 : xCD 169 0 = some (.aload_n 0, []) := rfl
theorem c169_1 : xCD 169 1 = some (.getfield 121, [7, 7, 668]) := rfl
theorem c169_4 : xCD 169 4 = some (.ifCond .ne 6, [10]) := rfl
theorem c169_7 : xCD 169 7 = some (.bipush (-2), []) := rfl
theorem c169_9 : xCD 169 9 = some (.ireturn, []) := rfl
theorem c169_10 : xCD 169 10 = some (.aload_n 0, []) := rfl
theorem c169_11 : xCD 169 11 = some (.dup, []) := rfl
theorem c169_12 : xCD 169 12 = some (.getfield 121, [7, 7, 668]) := rfl
theorem c169_15 : xCD 169 15 = some (.iconst 1, []) := rfl
theorem c169_16 : xCD 169 16 = some (.isub, []) := rfl
theorem c169_17 : xCD 169 17 = some (.putfield 121, [7, 7, 668]) := rfl
theorem c169_20 : xCD 169 20 = some (.aload_n 0, []) := rfl
theorem c169_21 : xCD 169 21 = some (.getfield 25, [7, 6, 645]) := rfl
theorem c169_24 : xCD 169 24 = some (.bipush 111, []) := rfl
theorem c169_26 : xCD 169 26 = some (.aload_n 0, []) := rfl
theorem c169_27 : xCD 169 27 = some (.getfield 121, [7, 7, 668]) := rfl
theorem c169_30 : xCD 169 30 = some (.imul, []) := rfl
theorem c169_31 : xCD 169 31 = some (.aload_n 0, []) := rfl
theorem c169_32 : xCD 169 32 = some (.getfield 16, [7, 2, 642]) := rfl
theorem c169_35 : xCD 169 35 = some (.iconst 0, []) := rfl
theorem c169_36 : xCD 169 36 = some (.bipush 111, []) := rfl
theorem c169_38 : xCD 169 38 = some (.invokestatic 92, [106, 5, 0, 664, 666, 371, 665]) := rfl
theorem c169_41 : xCD 169 41 = some (.aload_n 0, []) := rfl
theorem c169_42 : xCD 169 42 = some (.iconst 0, []) := rfl
theorem c169_43 : xCD 169 43 = some (.putfield 118, [7, 5, 667]) := rfl
theorem c169_46 : xCD 169 46 = some (.aload_n 0, []) := rfl
theorem c169_47 : xCD 169 47 = some (.getfield 121, [7, 7, 668]) := rfl
theorem c169_50 : xCD 169 50 = some (.ireturn, []) := rfl
theorem c170_0 : xCD 170 0 = some (.iconst 0, []) := rfl
theorem c170_1 : xCD 170 1 = some (.istore_n 2, []) := rfl
theorem c170_2 : xCD 170 2 = some (.iconst 0, []) := rfl
theorem c170_3 : xCD 170 3 = some (.istore_n 3, []) := rfl
theorem c170_4 : xCD 170 4 = some (.iload_n 3, []) := rfl
theorem c170_5 : xCD 170 5 = some (.bipush 36, []) := rfl
theorem c170_7 : xCD 170 7 = some (.if_icmp .ge 21, [28]) := rfl
theorem c170_10 : xCD 170 10 = some (.iload_n 2, []) := rfl
theorem c170_11 : xCD 170 11 = some (.aload_n 0, []) := rfl
theorem c170_12 : xCD 170 12 = some (.getfield 16, [7, 2, 642]) := rfl
theorem c170_15 : xCD 170 15 = some (.bipush 72, []) := rfl
theorem c170_17 : xCD 170 17 = some (.iload_n 3, []) := rfl
theorem c170_18 : xCD 170 18 = some (.iadd, []) := rfl
theorem c170_19 : xCD 170 19 = some (.iaload, []) := rfl
theorem c170_20 : xCD 170 20 = some (.iadd, []) := rfl
theorem c170_21 : xCD 170 21 = some (.istore_n 2, []) := rfl
theorem c170_22 : xCD 170 22 = some (.iinc 3 1, []) := rfl
theorem c170_25 : xCD 170 25 = some (.goto (-21), [4]) := rfl
theorem c170_28 : xCD 170 28 = some (.iload_n 1, []) := rfl
theorem c170_29 : xCD 170 29 = some (.tableswitch 124 0 10 #[59, 64, 71, 73, 81, 89, 97, 104, 109, 114, 119], [153, 88, 93, 100, 102, 110, 118, 126, 133, 138, 143, 148]) := rfl
theorem c170_88 : xCD 170 88 = some (.aload_n 0, []) := rfl
theorem c170_89 : xCD 170 89 = some (.invokevirtual 130, [122, 0, 0, 722, 724, 371, 723, 725]) := rfl
theorem c170_92 : xCD 170 92 = some (.ireturn, []) := rfl
theorem c170_93 : xCD 170 93 = some (.aload_n 0, []) := rfl
theorem c170_94 : xCD 170 94 = some (.getfield 7, [7, 0, 640]) := rfl
theorem c170_97 : xCD 170 97 = some (.iconst 0, []) := rfl
theorem c170_98 : xCD 170 98 = some (.iaload, []) := rfl
theorem c170_99 : xCD 170 99 = some (.ireturn, []) := rfl
theorem c170_100 : xCD 170 100 = some (.iload_n 2, []) := rfl
theorem c170_101 : xCD 170 101 = some (.ireturn, []) := rfl
theorem c170_102 : xCD 170 102 = some (.aload_n 0, []) := rfl
theorem c170_103 : xCD 170 103 = some (.getfield 16, [7, 2, 642]) := rfl
theorem c170_106 : xCD 170 106 = some (.bipush 110, []) := rfl
theorem c170_108 : xCD 170 108 = some (.iaload, []) := rfl
theorem c170_109 : xCD 170 109 = some (.ireturn, []) := rfl
theorem c170_110 : xCD 170 110 = some (.aload_n 0, []) := rfl
theorem c170_111 : xCD 170 111 = some (.getfield 16, [7, 2, 642]) := rfl
theorem c170_114 : xCD 170 114 = some (.bipush 108, []) := rfl
theorem c170_116 : xCD 170 116 = some (.iaload, []) := rfl
theorem c170_117 : xCD 170 117 = some (.ireturn, []) := rfl
theorem c170_118 : xCD 170 118 = some (.aload_n 0, []) := rfl
theorem c170_119 : xCD 170 119 = some (.getfield 16, [7, 2, 642]) := rfl
theorem c170_122 : xCD 170 122 = some (.bipush 109, []) := rfl
theorem c170_124 : xCD 170 124 = some (.iaload, []) := rfl
theorem c170_125 : xCD 170 125 = some (.ireturn, []) := rfl
theorem c170_126 : xCD 170 126 = some (.aload_n 0, []) := rfl
theorem c170_127 : xCD 170 127 = some (.getfield 7, [7, 0, 640]) := rfl
theorem c170_130 : xCD 170 130 = some (.iconst 2, []) := rfl
theorem c170_131 : xCD 170 131 = some (.iaload, []) := rfl
theorem c170_132 : xCD 170 132 = some (.ireturn, []) := rfl
theorem c170_133 : xCD 170 133 = some (.aload_n 0, []) := rfl
theorem c170_134 : xCD 170 134 = some (.getfield 124, [7, 11, 669]) := rfl
theorem c170_137 : xCD 170 137 = some (.ireturn, []) := rfl
theorem c170_138 : xCD 170 138 = some (.aload_n 0, []) := rfl
theorem c170_139 : xCD 170 139 = some (.getfield 118, [7, 5, 667]) := rfl
theorem c170_142 : xCD 170 142 = some (.ireturn, []) := rfl
theorem c170_143 : xCD 170 143 = some (.aload_n 0, []) := rfl
theorem c170_144 : xCD 170 144 = some (.getfield 121, [7, 7, 668]) := rfl
theorem c170_147 : xCD 170 147 = some (.ireturn, []) := rfl
theorem c170_148 : xCD 170 148 = some (.aload_n 0, []) := rfl
theorem c170_149 : xCD 170 149 = some (.getfield 61, [7, 9, 675]) := rfl
theorem c170_152 : xCD 170 152 = some (.ireturn, []) := rfl
theorem c170_153 : xCD 170 153 = some (.iconst (-1), []) := rfl
theorem c170_154 : xCD 170 154 = some (.ireturn, []) := rfl
section
variable {X : Nat × (Nat → Int32)} {C : Nat → List Value → xHp → Option Value → xHp → Prop} {Q : Option Value → xHp → Prop} {D : zD} {ct : zM}
-- ('PaintedTownModel', 'canvas', '(I)I')
theorem b141_0 {x1 : Int32} {D1 : zD} {ct1 : zM} {v1 : Int32} (he : C 124 [.ref 33, .int x1] (mk (zDm D) ct) (some (.int v1)) (mk D1 ct1)) (kk : RUN X C 141 Q 5 [.ref 33, .int x1] [.int v1] (mk D1 ct1)) : RUN X C 141 Q 0 [.ref 33, .int x1] [] (mk (zDm D) ct) :=
  s_aload_n c141_0 rfl <|
  s_iload_n c141_1 rfl <|
  s_callv (args := [.int x1]) (r := []) c141_2 rfl rfl (Nat.le_of_ble_eq_true rfl) rfl ⟨rfl, by decide⟩ he kk
theorem b141_5 {x1 : Int32} {xs0 : Int32} (k1 : xs0 = (nI 0) → RUN X C 141 Q 8 [.ref 33, .int x1] [] (mk (zDm D) ct)) (k2 : ¬ xs0 = (nI 0) → RUN X C 141 Q 10 [.ref 33, .int x1] [] (mk (zDm D) ct)) : RUN X C 141 Q 5 [.ref 33, .int x1] [.int xs0] (mk (zDm D) ct) :=
  s_ifne c141_5 k1 k2
theorem b141_8 {x1 : Int32} (hq : Q (some (.int (-1))) (mk (zDm D) ct)) : RUN X C 141 Q 8 [.ref 33, .int x1] [] (mk (zDm D) ct) :=
  s_const c141_8 zcI_m1 <|
  s_iret c141_9 (xrtI rfl) hq
theorem b141_10 {x1 : Int32} {D1 : zD} {ct1 : zM} (he : C 137 [.ref 33] (mk (zDm D) ct) none (mk D1 ct1)) (kk : RUN X C 141 Q 14 [.ref 33, .int x1] [] (mk D1 ct1)) : RUN X C 141 Q 10 [.ref 33, .int x1] [] (mk (zDm D) ct) :=
  s_aload_n c141_10 rfl <|
  s_callv (args := []) (r := []) c141_11 rfl rfl (Nat.le_of_ble_eq_true rfl) rfl ⟨rfl, by decide⟩ he kk
theorem b141_14 {x1 : Int32} {j31 : Nat} (hx31 : zix ((nI 72) + x1) j31 111) {j33 : Nat} (hx33 : zix ((nI 72) + x1) j33 111) {j42 : Nat} (hx42 : zix ((nI 72) + x1) j42 111) (hq : Q (some (.int ((u2 ct 36 j33 ((nI 1) - (ct 36 j31))) 36 j42))) (mk (zDm D) (u2 ct 36 j33 ((nI 1) - (ct 36 j31))))) : RUN X C 141 Q 14 [.ref 33, .int x1] [] (mk (zDm D) ct) :=
  s_aload_n c141_14 rfl <|
  s_getf (ct := ct) c141_15 rfl (by decide) rfl <|
  s_bipush c141_18 zcB_72 <|
  s_iload_n c141_20 rfl <|
  s_iadd c141_21 <|
  s_const c141_22 zcI_1 <|
  s_aload_n c141_23 rfl <|
  s_getf (ct := ct) c141_24 rfl (by decide) rfl <|
  s_bipush c141_27 zcB_72 <|
  s_iload_n c141_29 rfl <|
  s_iadd c141_30 <|
  s_iald (ct := ct) c141_31 rfl hx31 <|
  s_isub c141_32 <|
  s_iast (ct := ct) c141_33 rfl hx33 <|
  s_aload_n c141_34 rfl <|
  s_getf (ct := (u2 ct 36 j33 ((nI 1) - (ct 36 j31)))) c141_35 rfl (by decide) rfl <|
  s_bipush c141_38 zcB_72 <|
  s_iload_n c141_40 rfl <|
  s_iadd c141_41 <|
  s_iald (ct := (u2 ct 36 j33 ((nI 1) - (ct 36 j31)))) c141_42 rfl hx42 <|
  s_iret c141_43 (xrtI rfl) hq
-- ('PaintedTownModel', 'wind', '(I)I')
theorem b142_0 {x1 : Int32} {l2 : Value} {D1 : zD} {ct1 : zM} {v1 : Int32} (he : C 108 [.long (x1.toInt64), .long (lN 0), .long (lN 3)] (mk (zDm D) ct) (some (.int v1)) (mk D1 ct1)) (kk : RUN X C 142 Q 9 [.ref 33, .int x1, l2] [.int v1] (mk D1 ct1)) : RUN X C 142 Q 0 [.ref 33, .int x1, l2] [] (mk (zDm D) ct) :=
  s_iload_n c142_0 rfl <|
  s_i2l c142_1 <|
  s_lconst c142_2 <|
  s_ldc2 c142_3 <|
  s_calls (args := [.long (x1.toInt64), .long (lN 0), .long (lN 3)]) (r := []) c142_6 rfl rfl (Nat.le_of_ble_eq_true rfl) he kk
theorem b142_9 {x1 : Int32} {l2 : Value} {xs0 : Int32} (k1 : xs0 = (nI 0) → RUN X C 142 Q 12 [.ref 33, .int x1, l2] [] (mk (zDm D) ct)) (k2 : ¬ xs0 = (nI 0) → RUN X C 142 Q 14 [.ref 33, .int x1, l2] [] (mk (zDm D) ct)) : RUN X C 142 Q 9 [.ref 33, .int x1, l2] [.int xs0] (mk (zDm D) ct) :=
  s_ifne c142_9 k1 k2
theorem b142_12 {x1 : Int32} {l2 : Value} (hq : Q (some (.int (-1))) (mk (zDm D) ct)) : RUN X C 142 Q 12 [.ref 33, .int x1, l2] [] (mk (zDm D) ct) :=
  s_const c142_12 zcI_m1 <|
  s_iret c142_13 (xrtI rfl) hq
theorem b142_14 {x1 : Int32} {l2 : Value} {D1 : zD} {ct1 : zM} (he : C 137 [.ref 33] (mk (zDm D) ct) none (mk D1 ct1)) (kk : RUN X C 142 Q 18 [.ref 33, .int x1, l2] [] (mk D1 ct1)) : RUN X C 142 Q 14 [.ref 33, .int x1, l2] [] (mk (zDm D) ct) :=
  s_aload_n c142_14 rfl <|
  s_callv (args := []) (r := []) c142_15 rfl rfl (Nat.le_of_ble_eq_true rfl) rfl ⟨rfl, by decide⟩ he kk
theorem b142_18 {x1 : Int32} {l2 : Value} (hq : Q (some (.int (ct 36 108))) (mk (zDm D) (u2 ct 36 108 x1))) : RUN X C 142 Q 18 [.ref 33, .int x1, l2] [] (mk (zDm D) ct) :=
  s_aload_n c142_18 rfl <|
  s_getf (ct := ct) c142_19 rfl (by decide) rfl <|
  s_bipush c142_22 zcB_108 <|
  s_iald (ct := ct) c142_24 rfl (zix_nI (by decide) (by decide)) <|
  s_istore_n c142_25 (Nat.le_of_ble_eq_true rfl) True.intro <|
  s_aload_n c142_26 rfl <|
  s_getf (ct := ct) c142_27 rfl (by decide) rfl <|
  s_bipush c142_30 zcB_108 <|
  s_iload_n c142_32 rfl <|
  s_iast (ct := ct) c142_33 rfl (zix_nI (by decide) (by decide)) <|
  s_iload_n c142_34 rfl <|
  s_iret c142_35 (xrtI rfl) hq
-- ('PaintedTownModel', 'eye', '(I)I')
theorem b143_0 {x1 : Int32} {l2 : Value} {D1 : zD} {ct1 : zM} {v1 : Int32} (he : C 124 [.ref 33, .int x1] (mk (zDm D) ct) (some (.int v1)) (mk D1 ct1)) (kk : RUN X C 143 Q 5 [.ref 33, .int x1, l2] [.int v1] (mk D1 ct1)) : RUN X C 143 Q 0 [.ref 33, .int x1, l2] [] (mk (zDm D) ct) :=
  s_aload_n c143_0 rfl <|
  s_iload_n c143_1 rfl <|
  s_callv (args := [.int x1]) (r := []) c143_2 rfl rfl (Nat.le_of_ble_eq_true rfl) rfl ⟨rfl, by decide⟩ he kk
theorem b143_5 {x1 : Int32} {l2 : Value} {xs0 : Int32} (k1 : xs0 = (nI 0) → RUN X C 143 Q 8 [.ref 33, .int x1, l2] [] (mk (zDm D) ct)) (k2 : ¬ xs0 = (nI 0) → RUN X C 143 Q 10 [.ref 33, .int x1, l2] [] (mk (zDm D) ct)) : RUN X C 143 Q 5 [.ref 33, .int x1, l2] [.int xs0] (mk (zDm D) ct) :=
  s_ifne c143_5 k1 k2
theorem b143_8 {x1 : Int32} {l2 : Value} (hq : Q (some (.int (-1))) (mk (zDm D) ct)) : RUN X C 143 Q 8 [.ref 33, .int x1, l2] [] (mk (zDm D) ct) :=
  s_const c143_8 zcI_m1 <|
  s_iret c143_9 (xrtI rfl) hq
theorem b143_10 {x1 : Int32} {l2 : Value} {D1 : zD} {ct1 : zM} (he : C 137 [.ref 33] (mk (zDm D) ct) none (mk D1 ct1)) (kk : RUN X C 143 Q 14 [.ref 33, .int x1, l2] [] (mk D1 ct1)) : RUN X C 143 Q 10 [.ref 33, .int x1, l2] [] (mk (zDm D) ct) :=
  s_aload_n c143_10 rfl <|
  s_callv (args := []) (r := []) c143_11 rfl rfl (Nat.le_of_ble_eq_true rfl) rfl ⟨rfl, by decide⟩ he kk
theorem b143_14 {x1 : Int32} {l2 : Value} (hq : Q (some (.int (ct 36 109))) (mk (zDm D) (u2 ct 36 109 x1))) : RUN X C 143 Q 14 [.ref 33, .int x1, l2] [] (mk (zDm D) ct) :=
  s_aload_n c143_14 rfl <|
  s_getf (ct := ct) c143_15 rfl (by decide) rfl <|
  s_bipush c143_18 zcB_109 <|
  s_iald (ct := ct) c143_20 rfl (zix_nI (by decide) (by decide)) <|
  s_istore_n c143_21 (Nat.le_of_ble_eq_true rfl) True.intro <|
  s_aload_n c143_22 rfl <|
  s_getf (ct := ct) c143_23 rfl (by decide) rfl <|
  s_bipush c143_26 zcB_109 <|
  s_iload_n c143_28 rfl <|
  s_iast (ct := ct) c143_29 rfl (zix_nI (by decide) (by decide)) <|
  s_iload_n c143_30 rfl <|
  s_iret c143_31 (xrtI rfl) hq
-- ('PaintedTownModel', 'pass', '(I)I')
theorem b144_0 {x1 : Int32} {D1 : zD} {ct1 : zM} {v1 : Int32} (he : C 108 [.long (x1.toInt64), .long (lN 1), .long (lN 20)] (mk (zDm D) ct) (some (.int v1)) (mk D1 ct1)) (kk : RUN X C 144 Q 9 [.ref 33, .int x1] [.int v1] (mk D1 ct1)) : RUN X C 144 Q 0 [.ref 33, .int x1] [] (mk (zDm D) ct) :=
  s_iload_n c144_0 rfl <|
  s_i2l c144_1 <|
  s_lconst c144_2 <|
  s_ldc2 c144_3 <|
  s_calls (args := [.long (x1.toInt64), .long (lN 1), .long (lN 20)]) (r := []) c144_6 rfl rfl (Nat.le_of_ble_eq_true rfl) he kk
theorem b144_9 {x1 : Int32} {xs0 : Int32} (k1 : xs0 = (nI 0) → RUN X C 144 Q 12 [.ref 33, .int x1] [] (mk (zDm D) ct)) (k2 : ¬ xs0 = (nI 0) → RUN X C 144 Q 14 [.ref 33, .int x1] [] (mk (zDm D) ct)) : RUN X C 144 Q 9 [.ref 33, .int x1] [.int xs0] (mk (zDm D) ct) :=
  s_ifne c144_9 k1 k2
theorem b144_12 {x1 : Int32} (hq : Q (some (.int (-1))) (mk (zDm D) ct)) : RUN X C 144 Q 12 [.ref 33, .int x1] [] (mk (zDm D) ct) :=
  s_const c144_12 zcI_m1 <|
  s_iret c144_13 (xrtI rfl) hq
theorem b144_14 {x1 : Int32} {D1 : zD} {ct1 : zM} (he : C 137 [.ref 33] (mk (zDm D) ct) none (mk D1 ct1)) (kk : RUN X C 144 Q 18 [.ref 33, .int x1] [] (mk D1 ct1)) : RUN X C 144 Q 14 [.ref 33, .int x1] [] (mk (zDm D) ct) :=
  s_aload_n c144_14 rfl <|
  s_callv (args := []) (r := []) c144_15 rfl rfl (Nat.le_of_ble_eq_true rfl) rfl ⟨rfl, by decide⟩ he kk
theorem b144_18 {x1 : Int32} {D1 : zD} {ct1 : zM} (he : C 145 [.ref 36, .int x1] (mk (zDm D) ct) none (mk D1 ct1)) (kk : RUN X C 144 Q 26 [.ref 33, .int x1] [] (mk D1 ct1)) : RUN X C 144 Q 18 [.ref 33, .int x1] [] (mk (zDm D) ct) :=
  s_aload_n c144_18 rfl <|
  s_getf (ct := ct) c144_19 rfl (by decide) rfl <|
  s_iload_n c144_22 rfl <|
  s_calls (args := [.ref 36, .int x1]) (r := []) c144_23 rfl rfl (Nat.le_of_ble_eq_true rfl) he kk
theorem b144_26 {x1 : Int32} (hq : Q (some (.int ((ct 36 110) + x1))) (mk (zDm D) (u2 ct 36 110 ((ct 36 110) + x1)))) : RUN X C 144 Q 26 [.ref 33, .int x1] [] (mk (zDm D) ct) :=
  s_aload_n c144_26 rfl <|
  s_getf (ct := ct) c144_27 rfl (by decide) rfl <|
  s_bipush c144_30 zcB_110 <|
  s_dup2 c144_32 rfl rfl <|
  s_iald (ct := ct) c144_33 rfl (zix_nI (by decide) (by decide)) <|
  s_iload_n c144_34 rfl <|
  s_iadd c144_35 <|
  s_iast (ct := ct) c144_36 rfl (zix_nI (by decide) (by decide)) <|
  s_aload_n c144_37 rfl <|
  s_getf (ct := (u2 ct 36 110 ((ct 36 110) + x1))) c144_38 rfl (by decide) rfl <|
  s_bipush c144_41 zcB_110 <|
  s_iald (ct := (u2 ct 36 110 ((ct 36 110) + x1))) c144_43 rfl (zix_nI (by decide) (by decide)) <|
  s_iret c144_44 (xrtI rfl) hq
-- ('PaintedTownModel', 'grows', '([II)V')
theorem b145_0 {a0 n0 : Nat} (ha0 : zsh (zDm D) a0 = (10, n0)) {x1 : Int32} {l2 : Value} (kk : RUN X C 145 Q 2 [.ref a0, .int x1, .int (nI 0)] [] (mk (zDm D) ct)) : RUN X C 145 Q 0 [.ref a0, .int x1, l2] [] (mk (zDm D) ct) :=
  s_const c145_0 zcI_0 <|
  s_istore_n c145_1 (Nat.le_of_ble_eq_true rfl) True.intro <|
  kk
theorem b145_2 {a0 n0 : Nat} (ha0 : zsh (zDm D) a0 = (10, n0)) {x1 : Int32} {x2 : Int32} (k1 : (nI 36) ≤ x2 → RUN X C 145 Q 37 [.ref a0, .int x1, .int x2] [] (mk (zDm D) ct)) (k2 : ¬ (nI 36) ≤ x2 → RUN X C 145 Q 8 [.ref a0, .int x1, .int x2] [] (mk (zDm D) ct)) : RUN X C 145 Q 2 [.ref a0, .int x1, .int x2] [] (mk (zDm D) ct) :=
  s_iload_n c145_2 rfl <|
  s_bipush c145_3 zcB_36 <|
  s_icge c145_5 k1 k2
theorem b145_8 {a0 n0 : Nat} (ha0 : zsh (zDm D) a0 = (10, n0)) {x1 : Int32} {x2 : Int32} {j14 : Nat} (hx14 : zix ((nI 36) + x2) j14 n0) {j19 : Nat} (hx19 : zix ((nI 0) + x2) j19 n0) (k1 : (ct a0 j19) = (nI 5) → RUN X C 145 Q 24 [.ref a0, .int x1, .int x2] [.int (ct a0 j14), .int ((nI 36) + x2), .ref a0] (mk (zDm D) ct)) (k2 : ¬ (ct a0 j19) = (nI 5) → RUN X C 145 Q 28 [.ref a0, .int x1, .int x2] [.int (ct a0 j14), .int ((nI 36) + x2), .ref a0] (mk (zDm D) ct)) : RUN X C 145 Q 8 [.ref a0, .int x1, .int x2] [] (mk (zDm D) ct) :=
  s_aload_n c145_8 rfl <|
  s_bipush c145_9 zcB_36 <|
  s_iload_n c145_11 rfl <|
  s_iadd c145_12 <|
  s_dup2 c145_13 rfl rfl <|
  s_iald (ct := ct) c145_14 ha0 hx14 <|
  s_aload_n c145_15 rfl <|
  s_const c145_16 zcI_0 <|
  s_iload_n c145_17 rfl <|
  s_iadd c145_18 <|
  s_iald (ct := ct) c145_19 ha0 hx19 <|
  s_const c145_20 zcI_5 <|
  s_icne c145_21 k1 k2
theorem b145_24 {a0 n0 : Nat} (ha0 : zsh (zDm D) a0 = (10, n0)) {x1 : Int32} {x2 : Int32} {as0 ns0 : Nat} (has0 : zsh (zDm D) as0 = (10, ns0)) {xs1 : Int32} {xs2 : Int32} {j30 : Nat} (hx30 : zix xs1 j30 ns0) (kk : RUN X C 145 Q 2 [.ref a0, .int x1, .int (x2 + nI 1)] [] (mk (zDm D) (u2 ct as0 j30 (xs2 + x1)))) : RUN X C 145 Q 24 [.ref a0, .int x1, .int x2] [.int xs2, .int xs1, .ref as0] (mk (zDm D) ct) :=
  s_iload_n c145_24 rfl <|
  s_goto c145_25 <|
  s_iadd c145_29 <|
  s_iast (ct := ct) c145_30 has0 hx30 <|
  s_iinc c145_31 rfl True.intro zcI_1 <|
  s_goto c145_34 <|
  kk
theorem b145_28 {a0 n0 : Nat} (ha0 : zsh (zDm D) a0 = (10, n0)) {x1 : Int32} {x2 : Int32} {as0 ns0 : Nat} (has0 : zsh (zDm D) as0 = (10, ns0)) {xs1 : Int32} {xs2 : Int32} {j30 : Nat} (hx30 : zix xs1 j30 ns0) (kk : RUN X C 145 Q 2 [.ref a0, .int x1, .int (x2 + nI 1)] [] (mk (zDm D) (u2 ct as0 j30 (xs2 + (nI 0))))) : RUN X C 145 Q 28 [.ref a0, .int x1, .int x2] [.int xs2, .int xs1, .ref as0] (mk (zDm D) ct) :=
  s_const c145_28 zcI_0 <|
  s_iadd c145_29 <|
  s_iast (ct := ct) c145_30 has0 hx30 <|
  s_iinc c145_31 rfl True.intro zcI_1 <|
  s_goto c145_34 <|
  kk
theorem b145_37 {a0 n0 : Nat} (ha0 : zsh (zDm D) a0 = (10, n0)) {x1 : Int32} {x2 : Int32} (hq : Q none (mk (zDm D) ct)) : RUN X C 145 Q 37 [.ref a0, .int x1, .int x2] [] (mk (zDm D) ct) :=
  s_ret c145_37 rfl hq
-- ('PaintedTownModel', 'undo', '()I')
theorem b146_0 (k1 : (ct 33 5) = (nI 0) → RUN X C 146 Q 7 [.ref 33] [] (mk (zDm D) ct)) (k2 : ¬ (ct 33 5) = (nI 0) → RUN X C 146 Q 10 [.ref 33] [] (mk (zDm D) ct)) : RUN X C 146 Q 0 [.ref 33] [] (mk (zDm D) ct) :=
  s_aload_n c146_0 rfl <|
  s_getf (ct := ct) c146_1 rfl (by decide) rfl <|
  s_ifne c146_4 k1 k2
theorem b146_7 (hq : Q (some (.int (-2))) (mk (zDm D) ct)) : RUN X C 146 Q 7 [.ref 33] [] (mk (zDm D) ct) :=
  s_bipush c146_7 zcB_m2 <|
  s_iret c146_9 (xrtI rfl) hq
theorem b146_10 {D1 : zD} {ct1 : zM} (he : C 106 [.ref 38, .int ((nI 111) * ((ct 33 5) - (nI 1))), .ref 36, .int (nI 0), .int (nI 111)] (mk (zDm D) (u2 ct 33 5 ((ct 33 5) - (nI 1)))) none (mk D1 ct1)) (kk : RUN X C 146 Q 41 [.ref 33] [] (mk D1 ct1)) : RUN X C 146 Q 10 [.ref 33] [] (mk (zDm D) ct) :=
  s_aload_n c146_10 rfl <|
  s_dup c146_11 rfl <|
  s_getf (ct := ct) c146_12 rfl (by decide) rfl <|
  s_const c146_15 zcI_1 <|
  s_isub c146_16 <|
  s_putf (ct := ct) c146_17 rfl (by decide) zint_7_5 xfit_7_5 <|
  s_aload_n c146_20 rfl <|
  s_getf (ct := (u2 ct 33 5 ((ct 33 5) - (nI 1)))) c146_21 rfl (by decide) rfl <|
  s_bipush c146_24 zcB_111 <|
  s_aload_n c146_26 rfl <|
  s_getf (ct := (u2 ct 33 5 ((ct 33 5) - (nI 1)))) c146_27 rfl (by decide) rfl <|
  s_imul c146_30 <|
  s_aload_n c146_31 rfl <|
  s_getf (ct := (u2 ct 33 5 ((ct 33 5) - (nI 1)))) c146_32 rfl (by decide) rfl <|
  s_const c146_35 zcI_0 <|
  s_bipush c146_36 zcB_111 <|
  s_calls (args := [.ref 38, .int ((nI 111) * ((ct 33 5) - (nI 1))), .ref 36, .int (nI 0), .int (nI 111)]) (r := []) c146_38 rfl rfl (Nat.le_of_ble_eq_true rfl) he kk
theorem b146_41 (hq : Q (some (.int (ct 33 5))) (mk (zDm D) ct)) : RUN X C 146 Q 41 [.ref 33] [] (mk (zDm D) ct) :=
  s_aload_n c146_41 rfl <|
  s_getf (ct := ct) c146_42 rfl (by decide) rfl <|
  s_iret c146_45 (xrtI rfl) hq
-- ('PaintedTownModel', 'behind', '(II)I')
theorem b147_0 {x1 : Int32} {x2 : Int32} {D1 : zD} {ct1 : zM} {v1 : Int32} (he : C 108 [.long (x1.toInt64), .long (lN 0), .long (lN 20)] (mk (zDm D) ct) (some (.int v1)) (mk D1 ct1)) (kk : RUN X C 147 Q 9 [.ref 33, .int x1, .int x2] [.int v1] (mk D1 ct1)) : RUN X C 147 Q 0 [.ref 33, .int x1, .int x2] [] (mk (zDm D) ct) :=
  s_iload_n c147_0 rfl <|
  s_i2l c147_1 <|
  s_lconst c147_2 <|
  s_ldc2 c147_3 <|
  s_calls (args := [.long (x1.toInt64), .long (lN 0), .long (lN 20)]) (r := []) c147_6 rfl rfl (Nat.le_of_ble_eq_true rfl) he kk
theorem b147_9 {x1 : Int32} {x2 : Int32} {xs0 : Int32} (k1 : xs0 = (nI 0) → RUN X C 147 Q 19 [.ref 33, .int x1, .int x2] [] (mk (zDm D) ct)) (k2 : ¬ xs0 = (nI 0) → RUN X C 147 Q 12 [.ref 33, .int x1, .int x2] [] (mk (zDm D) ct)) : RUN X C 147 Q 9 [.ref 33, .int x1, .int x2] [.int xs0] (mk (zDm D) ct) :=
  s_ifeq c147_9 k1 k2
theorem b147_12 {x1 : Int32} {x2 : Int32} {D1 : zD} {ct1 : zM} {v1 : Int32} (he : C 148 [.int x2] (mk (zDm D) ct) (some (.int v1)) (mk D1 ct1)) (kk : RUN X C 147 Q 16 [.ref 33, .int x1, .int x2] [.int v1] (mk D1 ct1)) : RUN X C 147 Q 12 [.ref 33, .int x1, .int x2] [] (mk (zDm D) ct) :=
  s_iload_n c147_12 rfl <|
  s_calls (args := [.int x2]) (r := []) c147_13 rfl rfl (Nat.le_of_ble_eq_true rfl) he kk
theorem b147_16 {x1 : Int32} {x2 : Int32} {xs0 : Int32} (k1 : xs0 = (nI 0) → RUN X C 147 Q 19 [.ref 33, .int x1, .int x2] [] (mk (zDm D) ct)) (k2 : ¬ xs0 = (nI 0) → RUN X C 147 Q 21 [.ref 33, .int x1, .int x2] [] (mk (zDm D) ct)) : RUN X C 147 Q 16 [.ref 33, .int x1, .int x2] [.int xs0] (mk (zDm D) ct) :=
  s_ifne c147_16 k1 k2
theorem b147_19 {x1 : Int32} {x2 : Int32} (hq : Q (some (.int (-1))) (mk (zDm D) ct)) : RUN X C 147 Q 19 [.ref 33, .int x1, .int x2] [] (mk (zDm D) ct) :=
  s_const c147_19 zcI_m1 <|
  s_iret c147_20 (xrtI rfl) hq
theorem b147_21 {x1 : Int32} {x2 : Int32} {D1 : zD} {ct1 : zM} (he : C 149 [.ref 33] (mk (zDm D) ct) none (mk D1 ct1)) (kk : RUN X C 147 Q 25 [.ref 33, .int x1, .int x2] [] (mk D1 ct1)) : RUN X C 147 Q 21 [.ref 33, .int x1, .int x2] [] (mk (zDm D) ct) :=
  s_aload_n c147_21 rfl <|
  s_callv (args := []) (r := []) c147_22 rfl rfl (Nat.le_of_ble_eq_true rfl) rfl ⟨rfl, by decide⟩ he kk
theorem b147_25 {x1 : Int32} {x2 : Int32} {D1 : zD} {ct1 : zM} (he : C 145 [.ref 37, .int x1] (mk (zDm D) ct) none (mk D1 ct1)) (kk : RUN X C 147 Q 33 [.ref 33, .int x1, .int x2] [] (mk D1 ct1)) : RUN X C 147 Q 25 [.ref 33, .int x1, .int x2] [] (mk (zDm D) ct) :=
  s_aload_n c147_25 rfl <|
  s_getf (ct := ct) c147_26 rfl (by decide) rfl <|
  s_iload_n c147_29 rfl <|
  s_calls (args := [.ref 37, .int x1]) (r := []) c147_30 rfl rfl (Nat.le_of_ble_eq_true rfl) he kk
theorem b147_33 {x1 : Int32} {x2 : Int32} (k1 : x2 = (nI 0) → RUN X C 147 Q 37 [.ref 33, .int x1, .int x2] [] (mk (zDm D) ct)) (k2 : ¬ x2 = (nI 0) → RUN X C 147 Q 48 [.ref 33, .int x1, .int x2] [] (mk (zDm D) ct)) : RUN X C 147 Q 33 [.ref 33, .int x1, .int x2] [] (mk (zDm D) ct) :=
  s_iload_n c147_33 rfl <|
  s_ifne c147_34 k1 k2
theorem b147_37 {x1 : Int32} {x2 : Int32} {D1 : zD} {ct1 : zM} {v1 : Int32} (he : C 133 [.ref 33, .ref 37] (mk (zDm D) ct) (some (.int v1)) (mk D1 ct1)) (kk : RUN X C 147 Q 45 [.ref 33, .int x1, .int x2] [.int v1] (mk D1 ct1)) : RUN X C 147 Q 37 [.ref 33, .int x1, .int x2] [] (mk (zDm D) ct) :=
  s_aload_n c147_37 rfl <|
  s_aload_n c147_38 rfl <|
  s_getf (ct := ct) c147_39 rfl (by decide) rfl <|
  s_callv (args := [.ref 37]) (r := []) c147_42 rfl rfl (Nat.le_of_ble_eq_true rfl) rfl ⟨rfl, by decide⟩ he kk
theorem b147_45 {x1 : Int32} {x2 : Int32} {xs0 : Int32} (hq : Q (some (.int xs0)) (mk (zDm D) ct)) : RUN X C 147 Q 45 [.ref 33, .int x1, .int x2] [.int xs0] (mk (zDm D) ct) :=
  s_goto c147_45 <|
  s_iret c147_64 (xrtI rfl) hq
theorem b147_48 {x1 : Int32} {x2 : Int32} {D1 : zD} {ct1 : zM} {v1 : Int32} (he : C 134 [.ref 33, .ref 37] (mk (zDm D) ct) (some (.int v1)) (mk D1 ct1)) (kk : RUN X C 147 Q 56 [.ref 33, .int x1, .int x2] [.int v1] (mk D1 ct1)) : RUN X C 147 Q 48 [.ref 33, .int x1, .int x2] [] (mk (zDm D) ct) :=
  s_aload_n c147_48 rfl <|
  s_aload_n c147_49 rfl <|
  s_getf (ct := ct) c147_50 rfl (by decide) rfl <|
  s_callv (args := [.ref 37]) (r := []) c147_53 rfl rfl (Nat.le_of_ble_eq_true rfl) rfl ⟨rfl, by decide⟩ he kk
theorem b147_56 {x1 : Int32} {x2 : Int32} {xs0 : Int32} (k1 : xs0 = (nI 0) → RUN X C 147 Q 63 [.ref 33, .int x1, .int x2] [] (mk (zDm D) ct)) (k2 : ¬ xs0 = (nI 0) → RUN X C 147 Q 59 [.ref 33, .int x1, .int x2] [] (mk (zDm D) ct)) : RUN X C 147 Q 56 [.ref 33, .int x1, .int x2] [.int xs0] (mk (zDm D) ct) :=
  s_ifeq c147_56 k1 k2
theorem b147_59 {x1 : Int32} {x2 : Int32} (hq : Q (some (.int (nI 1))) (mk (zDm D) ct)) : RUN X C 147 Q 59 [.ref 33, .int x1, .int x2] [] (mk (zDm D) ct) :=
  s_const c147_59 zcI_1 <|
  s_goto c147_60 <|
  s_iret c147_64 (xrtI rfl) hq
theorem b147_63 {x1 : Int32} {x2 : Int32} (hq : Q (some (.int (nI 0))) (mk (zDm D) ct)) : RUN X C 147 Q 63 [.ref 33, .int x1, .int x2] [] (mk (zDm D) ct) :=
  s_const c147_63 zcI_0 <|
  s_iret c147_64 (xrtI rfl) hq
-- ('PaintedTownModel', 'isTwo', '(I)Z')
theorem b148_0 {x0 : Int32} {D1 : zD} {ct1 : zM} {v1 : Int32} (he : C 108 [.long (x0.toInt64), .long (lN 0), .long (lN 1)] (mk (zDm D) ct) (some (.int v1)) (mk D1 ct1)) (kk : RUN X C 148 Q 7 [.int x0] [.int v1] (mk D1 ct1)) : RUN X C 148 Q 0 [.int x0] [] (mk (zDm D) ct) :=
  s_iload_n c148_0 rfl <|
  s_i2l c148_1 <|
  s_lconst c148_2 <|
  s_lconst c148_3 <|
  s_calls (args := [.long (x0.toInt64), .long (lN 0), .long (lN 1)]) (r := []) c148_4 rfl rfl (Nat.le_of_ble_eq_true rfl) he kk
theorem b148_7 {x0 : Int32} {xs0 : Int32} (hq : Q (some (.int xs0)) (mk (zDm D) ct)) (hz7 : xs0 = nI 0 ∨ xs0 = nI 1) : RUN X C 148 Q 7 [.int x0] [.int xs0] (mk (zDm D) ct) :=
  s_iret c148_7 (xrtZ rfl hz7) hq
-- ('PaintedTownModel', 'layAside', '()V')
theorem b149_0 {D1 : zD} {ct1 : zM} (he : C 106 [.ref 36, .int (nI 0), .ref 37, .int (nI 0), .int (nI 111)] (mk (zDm D) ct) none (mk D1 ct1)) (kk : RUN X C 149 Q 15 [.ref 33] [] (mk D1 ct1)) : RUN X C 149 Q 0 [.ref 33] [] (mk (zDm D) ct) :=
  s_aload_n c149_0 rfl <|
  s_getf (ct := ct) c149_1 rfl (by decide) rfl <|
  s_const c149_4 zcI_0 <|
  s_aload_n c149_5 rfl <|
  s_getf (ct := ct) c149_6 rfl (by decide) rfl <|
  s_const c149_9 zcI_0 <|
  s_bipush c149_10 zcB_111 <|
  s_calls (args := [.ref 36, .int (nI 0), .ref 37, .int (nI 0), .int (nI 111)]) (r := []) c149_12 rfl rfl (Nat.le_of_ble_eq_true rfl) he kk
theorem b149_15 (hq : Q none (mk (zDm D) ct)) : RUN X C 149 Q 15 [.ref 33] [] (mk (zDm D) ct) :=
  s_ret c149_15 rfl hq
-- ('PaintedTownModel', 'until', '()I')
theorem b150_0 {l1 : Value} {D1 : zD} {ct1 : zM} (he : C 149 [.ref 33] (mk (zDm D) ct) none (mk D1 ct1)) (kk : RUN X C 150 Q 4 [.ref 33, l1] [] (mk D1 ct1)) : RUN X C 150 Q 0 [.ref 33, l1] [] (mk (zDm D) ct) :=
  s_aload_n c150_0 rfl <|
  s_callv (args := []) (r := []) c150_1 rfl rfl (Nat.le_of_ble_eq_true rfl) rfl ⟨rfl, by decide⟩ he kk
theorem b150_4 {l1 : Value} (kk : RUN X C 150 Q 6 [.ref 33, .int (nI 0)] [] (mk (zDm D) ct)) : RUN X C 150 Q 4 [.ref 33, l1] [] (mk (zDm D) ct) :=
  s_const c150_4 zcI_0 <|
  s_istore_n c150_5 (Nat.le_of_ble_eq_true rfl) True.intro <|
  kk
theorem b150_6 {x1 : Int32} (k1 : (nI 21) ≤ x1 → RUN X C 150 Q 39 [.ref 33, .int x1] [] (mk (zDm D) ct)) (k2 : ¬ (nI 21) ≤ x1 → RUN X C 150 Q 12 [.ref 33, .int x1] [] (mk (zDm D) ct)) : RUN X C 150 Q 6 [.ref 33, .int x1] [] (mk (zDm D) ct) :=
  s_iload_n c150_6 rfl <|
  s_bipush c150_7 zcB_21 <|
  s_icge c150_9 k1 k2
theorem b150_12 {x1 : Int32} {D1 : zD} {ct1 : zM} {v1 : Int32} (he : C 134 [.ref 33, .ref 37] (mk (zDm D) ct) (some (.int v1)) (mk D1 ct1)) (kk : RUN X C 150 Q 20 [.ref 33, .int x1] [.int v1] (mk D1 ct1)) : RUN X C 150 Q 12 [.ref 33, .int x1] [] (mk (zDm D) ct) :=
  s_aload_n c150_12 rfl <|
  s_aload_n c150_13 rfl <|
  s_getf (ct := ct) c150_14 rfl (by decide) rfl <|
  s_callv (args := [.ref 37]) (r := []) c150_17 rfl rfl (Nat.le_of_ble_eq_true rfl) rfl ⟨rfl, by decide⟩ he kk
theorem b150_20 {x1 : Int32} {xs0 : Int32} (k1 : xs0 = (nI 0) → RUN X C 150 Q 23 [.ref 33, .int x1] [] (mk (zDm D) ct)) (k2 : ¬ xs0 = (nI 0) → RUN X C 150 Q 25 [.ref 33, .int x1] [] (mk (zDm D) ct)) : RUN X C 150 Q 20 [.ref 33, .int x1] [.int xs0] (mk (zDm D) ct) :=
  s_ifne c150_20 k1 k2
theorem b150_23 {x1 : Int32} (hq : Q (some (.int x1)) (mk (zDm D) ct)) : RUN X C 150 Q 23 [.ref 33, .int x1] [] (mk (zDm D) ct) :=
  s_iload_n c150_23 rfl <|
  s_iret c150_24 (xrtI rfl) hq
theorem b150_25 {x1 : Int32} {D1 : zD} {ct1 : zM} (he : C 145 [.ref 37, .int (nI 1)] (mk (zDm D) ct) none (mk D1 ct1)) (kk : RUN X C 150 Q 33 [.ref 33, .int x1] [] (mk D1 ct1)) : RUN X C 150 Q 25 [.ref 33, .int x1] [] (mk (zDm D) ct) :=
  s_aload_n c150_25 rfl <|
  s_getf (ct := ct) c150_26 rfl (by decide) rfl <|
  s_const c150_29 zcI_1 <|
  s_calls (args := [.ref 37, .int (nI 1)]) (r := []) c150_30 rfl rfl (Nat.le_of_ble_eq_true rfl) he kk
theorem b150_33 {x1 : Int32} (kk : RUN X C 150 Q 6 [.ref 33, .int (x1 + nI 1)] [] (mk (zDm D) ct)) : RUN X C 150 Q 33 [.ref 33, .int x1] [] (mk (zDm D) ct) :=
  s_iinc c150_33 rfl True.intro zcI_1 <|
  s_goto c150_36 <|
  kk
theorem b150_39 {x1 : Int32} (hq : Q (some (.int (-4))) (mk (zDm D) ct)) : RUN X C 150 Q 39 [.ref 33, .int x1] [] (mk (zDm D) ct) :=
  s_bipush c150_39 zcB_m4 <|
  s_iret c150_41 (xrtI rfl) hq
-- ('PaintedTownModel', 'least', '(I)I')
theorem b151_0 {x1 : Int32} {D1 : zD} {ct1 : zM} {v1 : Int32} (he : C 152 [.ref 33, .int x1, .int (nI 0)] (mk (zDm D) ct) (some (.int v1)) (mk D1 ct1)) (kk : RUN X C 151 Q 6 [.ref 33, .int x1] [.int v1] (mk D1 ct1)) : RUN X C 151 Q 0 [.ref 33, .int x1] [] (mk (zDm D) ct) :=
  s_aload_n c151_0 rfl <|
  s_iload_n c151_1 rfl <|
  s_const c151_2 zcI_0 <|
  s_callv (args := [.int x1, .int (nI 0)]) (r := []) c151_3 rfl rfl (Nat.le_of_ble_eq_true rfl) rfl ⟨rfl, by decide⟩ he kk
theorem b151_6 {x1 : Int32} {xs0 : Int32} (hq : Q (some (.int xs0)) (mk (zDm D) ct)) : RUN X C 151 Q 6 [.ref 33, .int x1] [.int xs0] (mk (zDm D) ct) :=
  s_iret c151_6 (xrtI rfl) hq
-- ('PaintedTownModel', 'told', '(IZ)I')
theorem b152_0 {x1 : Int32} {x2 : Int32} {D1 : zD} {ct1 : zM} {v1 : Int32} (he : C 108 [.long (x1.toInt64), .long (lN 0), .long (lN 3)] (mk (zDm D) ct) (some (.int v1)) (mk D1 ct1)) (kk : RUN X C 152 Q 9 [.ref 33, .int x1, .int x2] [.int v1] (mk D1 ct1)) : RUN X C 152 Q 0 [.ref 33, .int x1, .int x2] [] (mk (zDm D) ct) :=
  s_iload_n c152_0 rfl <|
  s_i2l c152_1 <|
  s_lconst c152_2 <|
  s_ldc2 c152_3 <|
  s_calls (args := [.long (x1.toInt64), .long (lN 0), .long (lN 3)]) (r := []) c152_6 rfl rfl (Nat.le_of_ble_eq_true rfl) he kk
theorem b152_9 {x1 : Int32} {x2 : Int32} {xs0 : Int32} (k1 : xs0 = (nI 0) → RUN X C 152 Q 12 [.ref 33, .int x1, .int x2] [] (mk (zDm D) ct)) (k2 : ¬ xs0 = (nI 0) → RUN X C 152 Q 14 [.ref 33, .int x1, .int x2] [] (mk (zDm D) ct)) : RUN X C 152 Q 9 [.ref 33, .int x1, .int x2] [.int xs0] (mk (zDm D) ct) :=
  s_ifne c152_9 k1 k2
theorem b152_12 {x1 : Int32} {x2 : Int32} (hq : Q (some (.int (-1))) (mk (zDm D) ct)) : RUN X C 152 Q 12 [.ref 33, .int x1, .int x2] [] (mk (zDm D) ct) :=
  s_const c152_12 zcI_m1 <|
  s_iret c152_13 (xrtI rfl) hq
theorem b152_14 {x1 : Int32} {x2 : Int32} {D1 : zD} {ct1 : zM} (he : C 153 [.ref 33, .int x2] (mk (zDm D) ct) none (mk D1 ct1)) (kk : RUN X C 152 Q 19 [.ref 33, .int x1, .int x2] [] (mk D1 ct1)) : RUN X C 152 Q 14 [.ref 33, .int x1, .int x2] [] (mk (zDm D) ct) :=
  s_aload_n c152_14 rfl <|
  s_iload_n c152_15 rfl <|
  s_callv (args := [.int x2]) (r := []) c152_16 rfl rfl (Nat.le_of_ble_eq_true rfl) rfl ⟨rfl, by decide⟩ he kk
theorem b152_19 {x1 : Int32} {x2 : Int32} (k1 : (ct 33 18) = (nI 1000000) → RUN X C 152 Q 28 [.ref 33, .int x1, .int x2] [] (mk (zDm D) ct)) (k2 : ¬ (ct 33 18) = (nI 1000000) → RUN X C 152 Q 31 [.ref 33, .int x1, .int x2] [] (mk (zDm D) ct)) : RUN X C 152 Q 19 [.ref 33, .int x1, .int x2] [] (mk (zDm D) ct) :=
  s_aload_n c152_19 rfl <|
  s_getf (ct := ct) c152_20 rfl (by decide) rfl <|
  s_ldc c152_23 <|
  s_icne c152_25 k1 k2
theorem b152_28 {x1 : Int32} {x2 : Int32} (hq : Q (some (.int (-4))) (mk (zDm D) ct)) : RUN X C 152 Q 28 [.ref 33, .int x1, .int x2] [] (mk (zDm D) ct) :=
  s_bipush c152_28 zcB_m4 <|
  s_iret c152_30 (xrtI rfl) hq
theorem b152_31 {x1 : Int32} {x2 : Int32} (k1 : x1 = (nI 0) → RUN X C 152 Q 35 [.ref 33, .int x1, .int x2] [] (mk (zDm D) ct)) (k2 : ¬ x1 = (nI 0) → RUN X C 152 Q 42 [.ref 33, .int x1, .int x2] [] (mk (zDm D) ct)) : RUN X C 152 Q 31 [.ref 33, .int x1, .int x2] [] (mk (zDm D) ct) :=
  s_iload_n c152_31 rfl <|
  s_ifne c152_32 k1 k2
theorem b152_35 {x1 : Int32} {x2 : Int32} (hq : Q (some (.int (ct 33 18))) (mk (zDm D) ct)) : RUN X C 152 Q 35 [.ref 33, .int x1, .int x2] [] (mk (zDm D) ct) :=
  s_aload_n c152_35 rfl <|
  s_getf (ct := ct) c152_36 rfl (by decide) rfl <|
  s_goto c152_39 <|
  s_iret c152_63 (xrtI rfl) hq
theorem b152_42 {x1 : Int32} {x2 : Int32} (k1 : (ct 33 17) < x1 → RUN X C 152 Q 61 [.ref 33, .int x1, .int x2] [] (mk (zDm D) ct)) (k2 : ¬ (ct 33 17) < x1 → RUN X C 152 Q 50 [.ref 33, .int x1, .int x2] [] (mk (zDm D) ct)) : RUN X C 152 Q 42 [.ref 33, .int x1, .int x2] [] (mk (zDm D) ct) :=
  s_iload_n c152_42 rfl <|
  s_aload_n c152_43 rfl <|
  s_getf (ct := ct) c152_44 rfl (by decide) rfl <|
  s_icgt c152_47 k1 k2
theorem b152_50 {x1 : Int32} {x2 : Int32} {j57 : Nat} (hx57 : zix (x1 - (nI 1)) j57 3) (hq : Q (some (.int (ct 43 j57))) (mk (zDm D) ct)) : RUN X C 152 Q 50 [.ref 33, .int x1, .int x2] [] (mk (zDm D) ct) :=
  s_aload_n c152_50 rfl <|
  s_getf (ct := ct) c152_51 rfl (by decide) rfl <|
  s_iload_n c152_54 rfl <|
  s_const c152_55 zcI_1 <|
  s_isub c152_56 <|
  s_iald (ct := ct) c152_57 rfl hx57 <|
  s_goto c152_58 <|
  s_iret c152_63 (xrtI rfl) hq
theorem b152_61 {x1 : Int32} {x2 : Int32} (hq : Q (some (.int (-4))) (mk (zDm D) ct)) : RUN X C 152 Q 61 [.ref 33, .int x1, .int x2] [] (mk (zDm D) ct) :=
  s_bipush c152_61 zcB_m4 <|
  s_iret c152_63 (xrtI rfl) hq
-- ('PaintedTownModel', 'laySets', '(Z)V')
theorem b153_0 {x1 : Int32} {l2 : Value} {D1 : zD} {ct1 : zM} (he : C 154 [.ref 33, .int (nI 0), .int x1] (mk (zDm D) (u2 ct 33 18 (nI 1000000))) none (mk D1 ct1)) (kk : RUN X C 153 Q 12 [.ref 33, .int x1, l2] [] (mk D1 ct1)) : RUN X C 153 Q 0 [.ref 33, .int x1, l2] [] (mk (zDm D) ct) :=
  s_aload_n c153_0 rfl <|
  s_ldc c153_1 <|
  s_putf (ct := ct) c153_3 rfl (by decide) zint_7_18 xfit_7_18 <|
  s_aload_n c153_6 rfl <|
  s_const c153_7 zcI_0 <|
  s_iload_n c153_8 rfl <|
  s_callv (args := [.int (nI 0), .int x1]) (r := []) c153_9 rfl rfl (Nat.le_of_ble_eq_true rfl) rfl ⟨rfl, by decide⟩ he kk
theorem b153_12 {x1 : Int32} {l2 : Value} {D1 : zD} {ct1 : zM} {v1 : Int32} (he : C 122 [.ref 33] (mk (zDm D) ct) (some (.int v1)) (mk D1 ct1)) (kk : RUN X C 153 Q 16 [.ref 33, .int x1, l2] [.int v1] (mk D1 ct1)) : RUN X C 153 Q 12 [.ref 33, .int x1, l2] [] (mk (zDm D) ct) :=
  s_aload_n c153_12 rfl <|
  s_callv (args := []) (r := []) c153_13 rfl rfl (Nat.le_of_ble_eq_true rfl) rfl ⟨rfl, by decide⟩ he kk
theorem b153_16 {x1 : Int32} {l2 : Value} {xs0 : Int32} (kk : RUN X C 153 Q 24 [.ref 33, .int x1, .int xs0] [] (mk (zDm D) (u2 ct 44 0 (nI 0)))) : RUN X C 153 Q 16 [.ref 33, .int x1, l2] [.int xs0] (mk (zDm D) ct) :=
  s_istore_n c153_16 (Nat.le_of_ble_eq_true rfl) True.intro <|
  s_aload_n c153_17 rfl <|
  s_getf (ct := ct) c153_18 rfl (by decide) rfl <|
  s_const c153_21 zcI_0 <|
  s_const c153_22 zcI_0 <|
  s_iast (ct := ct) c153_23 rfl (zix_nI (by decide) (by decide)) <|
  kk
theorem b153_24 {x1 : Int32} {x2 : Int32} (k1 : x2 ≤ (ct 44 0) → RUN X C 153 Q 53 [.ref 33, .int x1, .int x2] [] (mk (zDm D) ct)) (k2 : ¬ x2 ≤ (ct 44 0) → RUN X C 153 Q 34 [.ref 33, .int x1, .int x2] [] (mk (zDm D) ct)) : RUN X C 153 Q 24 [.ref 33, .int x1, .int x2] [] (mk (zDm D) ct) :=
  s_aload_n c153_24 rfl <|
  s_getf (ct := ct) c153_25 rfl (by decide) rfl <|
  s_const c153_28 zcI_0 <|
  s_iald (ct := ct) c153_29 rfl (zix_nI (by decide) (by decide)) <|
  s_iload_n c153_30 rfl <|
  s_icge c153_31 k1 k2
theorem b153_34 {x1 : Int32} {x2 : Int32} {D1 : zD} {ct1 : zM} (he : C 154 [.ref 33, .int (nI 1), .int x1] (mk (zDm D) ct) none (mk D1 ct1)) (kk : RUN X C 153 Q 40 [.ref 33, .int x1, .int x2] [] (mk D1 ct1)) : RUN X C 153 Q 34 [.ref 33, .int x1, .int x2] [] (mk (zDm D) ct) :=
  s_aload_n c153_34 rfl <|
  s_const c153_35 zcI_1 <|
  s_iload_n c153_36 rfl <|
  s_callv (args := [.int (nI 1), .int x1]) (r := []) c153_37 rfl rfl (Nat.le_of_ble_eq_true rfl) rfl ⟨rfl, by decide⟩ he kk
theorem b153_40 {x1 : Int32} {x2 : Int32} (kk : RUN X C 153 Q 24 [.ref 33, .int x1, .int x2] [] (mk (zDm D) (u2 ct 44 0 ((ct 44 0) + (nI 1))))) : RUN X C 153 Q 40 [.ref 33, .int x1, .int x2] [] (mk (zDm D) ct) :=
  s_aload_n c153_40 rfl <|
  s_getf (ct := ct) c153_41 rfl (by decide) rfl <|
  s_const c153_44 zcI_0 <|
  s_dup2 c153_45 rfl rfl <|
  s_iald (ct := ct) c153_46 rfl (zix_nI (by decide) (by decide)) <|
  s_const c153_47 zcI_1 <|
  s_iadd c153_48 <|
  s_iast (ct := ct) c153_49 rfl (zix_nI (by decide) (by decide)) <|
  s_goto c153_50 <|
  kk
theorem b153_53 {x1 : Int32} {x2 : Int32} (kk : RUN X C 153 Q 60 [.ref 33, .int x1, .int x2] [] (mk (zDm D) (u2 ct 44 0 (nI 0)))) : RUN X C 153 Q 53 [.ref 33, .int x1, .int x2] [] (mk (zDm D) ct) :=
  s_aload_n c153_53 rfl <|
  s_getf (ct := ct) c153_54 rfl (by decide) rfl <|
  s_const c153_57 zcI_0 <|
  s_const c153_58 zcI_0 <|
  s_iast (ct := ct) c153_59 rfl (zix_nI (by decide) (by decide)) <|
  kk
theorem b153_60 {x1 : Int32} {x2 : Int32} (k1 : x2 ≤ (ct 44 0) → RUN X C 153 Q 126 [.ref 33, .int x1, .int x2] [] (mk (zDm D) ct)) (k2 : ¬ x2 ≤ (ct 44 0) → RUN X C 153 Q 70 [.ref 33, .int x1, .int x2] [] (mk (zDm D) ct)) : RUN X C 153 Q 60 [.ref 33, .int x1, .int x2] [] (mk (zDm D) ct) :=
  s_aload_n c153_60 rfl <|
  s_getf (ct := ct) c153_61 rfl (by decide) rfl <|
  s_const c153_64 zcI_0 <|
  s_iald (ct := ct) c153_65 rfl (zix_nI (by decide) (by decide)) <|
  s_iload_n c153_66 rfl <|
  s_icge c153_67 k1 k2
theorem b153_70 {x1 : Int32} {x2 : Int32} (kk : RUN X C 153 Q 84 [.ref 33, .int x1, .int x2] [] (mk (zDm D) (u2 ct 44 1 ((ct 44 0) + (nI 1))))) : RUN X C 153 Q 70 [.ref 33, .int x1, .int x2] [] (mk (zDm D) ct) :=
  s_aload_n c153_70 rfl <|
  s_getf (ct := ct) c153_71 rfl (by decide) rfl <|
  s_const c153_74 zcI_1 <|
  s_aload_n c153_75 rfl <|
  s_getf (ct := ct) c153_76 rfl (by decide) rfl <|
  s_const c153_79 zcI_0 <|
  s_iald (ct := ct) c153_80 rfl (zix_nI (by decide) (by decide)) <|
  s_const c153_81 zcI_1 <|
  s_iadd c153_82 <|
  s_iast (ct := ct) c153_83 rfl (zix_nI (by decide) (by decide)) <|
  kk
theorem b153_84 {x1 : Int32} {x2 : Int32} (k1 : x2 ≤ (ct 44 1) → RUN X C 153 Q 113 [.ref 33, .int x1, .int x2] [] (mk (zDm D) ct)) (k2 : ¬ x2 ≤ (ct 44 1) → RUN X C 153 Q 94 [.ref 33, .int x1, .int x2] [] (mk (zDm D) ct)) : RUN X C 153 Q 84 [.ref 33, .int x1, .int x2] [] (mk (zDm D) ct) :=
  s_aload_n c153_84 rfl <|
  s_getf (ct := ct) c153_85 rfl (by decide) rfl <|
  s_const c153_88 zcI_1 <|
  s_iald (ct := ct) c153_89 rfl (zix_nI (by decide) (by decide)) <|
  s_iload_n c153_90 rfl <|
  s_icge c153_91 k1 k2
theorem b153_94 {x1 : Int32} {x2 : Int32} {D1 : zD} {ct1 : zM} (he : C 154 [.ref 33, .int (nI 2), .int x1] (mk (zDm D) ct) none (mk D1 ct1)) (kk : RUN X C 153 Q 100 [.ref 33, .int x1, .int x2] [] (mk D1 ct1)) : RUN X C 153 Q 94 [.ref 33, .int x1, .int x2] [] (mk (zDm D) ct) :=
  s_aload_n c153_94 rfl <|
  s_const c153_95 zcI_2 <|
  s_iload_n c153_96 rfl <|
  s_callv (args := [.int (nI 2), .int x1]) (r := []) c153_97 rfl rfl (Nat.le_of_ble_eq_true rfl) rfl ⟨rfl, by decide⟩ he kk
theorem b153_100 {x1 : Int32} {x2 : Int32} (kk : RUN X C 153 Q 84 [.ref 33, .int x1, .int x2] [] (mk (zDm D) (u2 ct 44 1 ((ct 44 1) + (nI 1))))) : RUN X C 153 Q 100 [.ref 33, .int x1, .int x2] [] (mk (zDm D) ct) :=
  s_aload_n c153_100 rfl <|
  s_getf (ct := ct) c153_101 rfl (by decide) rfl <|
  s_const c153_104 zcI_1 <|
  s_dup2 c153_105 rfl rfl <|
  s_iald (ct := ct) c153_106 rfl (zix_nI (by decide) (by decide)) <|
  s_const c153_107 zcI_1 <|
  s_iadd c153_108 <|
  s_iast (ct := ct) c153_109 rfl (zix_nI (by decide) (by decide)) <|
  s_goto c153_110 <|
  kk
theorem b153_113 {x1 : Int32} {x2 : Int32} (kk : RUN X C 153 Q 60 [.ref 33, .int x1, .int x2] [] (mk (zDm D) (u2 ct 44 0 ((ct 44 0) + (nI 1))))) : RUN X C 153 Q 113 [.ref 33, .int x1, .int x2] [] (mk (zDm D) ct) :=
  s_aload_n c153_113 rfl <|
  s_getf (ct := ct) c153_114 rfl (by decide) rfl <|
  s_const c153_117 zcI_0 <|
  s_dup2 c153_118 rfl rfl <|
  s_iald (ct := ct) c153_119 rfl (zix_nI (by decide) (by decide)) <|
  s_const c153_120 zcI_1 <|
  s_iadd c153_121 <|
  s_iast (ct := ct) c153_122 rfl (zix_nI (by decide) (by decide)) <|
  s_goto c153_123 <|
  kk
theorem b153_126 {x1 : Int32} {x2 : Int32} (kk : RUN X C 153 Q 133 [.ref 33, .int x1, .int x2] [] (mk (zDm D) (u2 ct 44 0 (nI 0)))) : RUN X C 153 Q 126 [.ref 33, .int x1, .int x2] [] (mk (zDm D) ct) :=
  s_aload_n c153_126 rfl <|
  s_getf (ct := ct) c153_127 rfl (by decide) rfl <|
  s_const c153_130 zcI_0 <|
  s_const c153_131 zcI_0 <|
  s_iast (ct := ct) c153_132 rfl (zix_nI (by decide) (by decide)) <|
  kk
theorem b153_133 {x1 : Int32} {x2 : Int32} (k1 : x2 ≤ (ct 44 0) → RUN X C 153 Q 236 [.ref 33, .int x1, .int x2] [] (mk (zDm D) ct)) (k2 : ¬ x2 ≤ (ct 44 0) → RUN X C 153 Q 143 [.ref 33, .int x1, .int x2] [] (mk (zDm D) ct)) : RUN X C 153 Q 133 [.ref 33, .int x1, .int x2] [] (mk (zDm D) ct) :=
  s_aload_n c153_133 rfl <|
  s_getf (ct := ct) c153_134 rfl (by decide) rfl <|
  s_const c153_137 zcI_0 <|
  s_iald (ct := ct) c153_138 rfl (zix_nI (by decide) (by decide)) <|
  s_iload_n c153_139 rfl <|
  s_icge c153_140 k1 k2
theorem b153_143 {x1 : Int32} {x2 : Int32} (kk : RUN X C 153 Q 157 [.ref 33, .int x1, .int x2] [] (mk (zDm D) (u2 ct 44 1 ((ct 44 0) + (nI 1))))) : RUN X C 153 Q 143 [.ref 33, .int x1, .int x2] [] (mk (zDm D) ct) :=
  s_aload_n c153_143 rfl <|
  s_getf (ct := ct) c153_144 rfl (by decide) rfl <|
  s_const c153_147 zcI_1 <|
  s_aload_n c153_148 rfl <|
  s_getf (ct := ct) c153_149 rfl (by decide) rfl <|
  s_const c153_152 zcI_0 <|
  s_iald (ct := ct) c153_153 rfl (zix_nI (by decide) (by decide)) <|
  s_const c153_154 zcI_1 <|
  s_iadd c153_155 <|
  s_iast (ct := ct) c153_156 rfl (zix_nI (by decide) (by decide)) <|
  kk
theorem b153_157 {x1 : Int32} {x2 : Int32} (k1 : x2 ≤ (ct 44 1) → RUN X C 153 Q 223 [.ref 33, .int x1, .int x2] [] (mk (zDm D) ct)) (k2 : ¬ x2 ≤ (ct 44 1) → RUN X C 153 Q 167 [.ref 33, .int x1, .int x2] [] (mk (zDm D) ct)) : RUN X C 153 Q 157 [.ref 33, .int x1, .int x2] [] (mk (zDm D) ct) :=
  s_aload_n c153_157 rfl <|
  s_getf (ct := ct) c153_158 rfl (by decide) rfl <|
  s_const c153_161 zcI_1 <|
  s_iald (ct := ct) c153_162 rfl (zix_nI (by decide) (by decide)) <|
  s_iload_n c153_163 rfl <|
  s_icge c153_164 k1 k2
theorem b153_167 {x1 : Int32} {x2 : Int32} (kk : RUN X C 153 Q 181 [.ref 33, .int x1, .int x2] [] (mk (zDm D) (u2 ct 44 2 ((ct 44 1) + (nI 1))))) : RUN X C 153 Q 167 [.ref 33, .int x1, .int x2] [] (mk (zDm D) ct) :=
  s_aload_n c153_167 rfl <|
  s_getf (ct := ct) c153_168 rfl (by decide) rfl <|
  s_const c153_171 zcI_2 <|
  s_aload_n c153_172 rfl <|
  s_getf (ct := ct) c153_173 rfl (by decide) rfl <|
  s_const c153_176 zcI_1 <|
  s_iald (ct := ct) c153_177 rfl (zix_nI (by decide) (by decide)) <|
  s_const c153_178 zcI_1 <|
  s_iadd c153_179 <|
  s_iast (ct := ct) c153_180 rfl (zix_nI (by decide) (by decide)) <|
  kk
theorem b153_181 {x1 : Int32} {x2 : Int32} (k1 : x2 ≤ (ct 44 2) → RUN X C 153 Q 210 [.ref 33, .int x1, .int x2] [] (mk (zDm D) ct)) (k2 : ¬ x2 ≤ (ct 44 2) → RUN X C 153 Q 191 [.ref 33, .int x1, .int x2] [] (mk (zDm D) ct)) : RUN X C 153 Q 181 [.ref 33, .int x1, .int x2] [] (mk (zDm D) ct) :=
  s_aload_n c153_181 rfl <|
  s_getf (ct := ct) c153_182 rfl (by decide) rfl <|
  s_const c153_185 zcI_2 <|
  s_iald (ct := ct) c153_186 rfl (zix_nI (by decide) (by decide)) <|
  s_iload_n c153_187 rfl <|
  s_icge c153_188 k1 k2
theorem b153_191 {x1 : Int32} {x2 : Int32} {D1 : zD} {ct1 : zM} (he : C 154 [.ref 33, .int (nI 3), .int x1] (mk (zDm D) ct) none (mk D1 ct1)) (kk : RUN X C 153 Q 197 [.ref 33, .int x1, .int x2] [] (mk D1 ct1)) : RUN X C 153 Q 191 [.ref 33, .int x1, .int x2] [] (mk (zDm D) ct) :=
  s_aload_n c153_191 rfl <|
  s_const c153_192 zcI_3 <|
  s_iload_n c153_193 rfl <|
  s_callv (args := [.int (nI 3), .int x1]) (r := []) c153_194 rfl rfl (Nat.le_of_ble_eq_true rfl) rfl ⟨rfl, by decide⟩ he kk
theorem b153_197 {x1 : Int32} {x2 : Int32} (kk : RUN X C 153 Q 181 [.ref 33, .int x1, .int x2] [] (mk (zDm D) (u2 ct 44 2 ((ct 44 2) + (nI 1))))) : RUN X C 153 Q 197 [.ref 33, .int x1, .int x2] [] (mk (zDm D) ct) :=
  s_aload_n c153_197 rfl <|
  s_getf (ct := ct) c153_198 rfl (by decide) rfl <|
  s_const c153_201 zcI_2 <|
  s_dup2 c153_202 rfl rfl <|
  s_iald (ct := ct) c153_203 rfl (zix_nI (by decide) (by decide)) <|
  s_const c153_204 zcI_1 <|
  s_iadd c153_205 <|
  s_iast (ct := ct) c153_206 rfl (zix_nI (by decide) (by decide)) <|
  s_goto c153_207 <|
  kk
theorem b153_210 {x1 : Int32} {x2 : Int32} (kk : RUN X C 153 Q 157 [.ref 33, .int x1, .int x2] [] (mk (zDm D) (u2 ct 44 1 ((ct 44 1) + (nI 1))))) : RUN X C 153 Q 210 [.ref 33, .int x1, .int x2] [] (mk (zDm D) ct) :=
  s_aload_n c153_210 rfl <|
  s_getf (ct := ct) c153_211 rfl (by decide) rfl <|
  s_const c153_214 zcI_1 <|
  s_dup2 c153_215 rfl rfl <|
  s_iald (ct := ct) c153_216 rfl (zix_nI (by decide) (by decide)) <|
  s_const c153_217 zcI_1 <|
  s_iadd c153_218 <|
  s_iast (ct := ct) c153_219 rfl (zix_nI (by decide) (by decide)) <|
  s_goto c153_220 <|
  kk
theorem b153_223 {x1 : Int32} {x2 : Int32} (kk : RUN X C 153 Q 133 [.ref 33, .int x1, .int x2] [] (mk (zDm D) (u2 ct 44 0 ((ct 44 0) + (nI 1))))) : RUN X C 153 Q 223 [.ref 33, .int x1, .int x2] [] (mk (zDm D) ct) :=
  s_aload_n c153_223 rfl <|
  s_getf (ct := ct) c153_224 rfl (by decide) rfl <|
  s_const c153_227 zcI_0 <|
  s_dup2 c153_228 rfl rfl <|
  s_iald (ct := ct) c153_229 rfl (zix_nI (by decide) (by decide)) <|
  s_const c153_230 zcI_1 <|
  s_iadd c153_231 <|
  s_iast (ct := ct) c153_232 rfl (zix_nI (by decide) (by decide)) <|
  s_goto c153_233 <|
  kk
theorem b153_236 {x1 : Int32} {x2 : Int32} (hq : Q none (mk (zDm D) ct)) : RUN X C 153 Q 236 [.ref 33, .int x1, .int x2] [] (mk (zDm D) ct) :=
  s_ret c153_236 rfl hq
-- ('PaintedTownModel', 'tries', '(IZ)V')
theorem b154_0 {x1 : Int32} {x2 : Int32} {l3 : Value} {l4 : Value} {l5 : Value} {l6 : Value} (kk : RUN X C 154 Q 5 [.ref 33, .int x1, .int x2, .int (nI 0), .int (nI 0), l5, l6] [] (mk (zDm D) ct)) : RUN X C 154 Q 0 [.ref 33, .int x1, .int x2, l3, l4, l5, l6] [] (mk (zDm D) ct) :=
  s_const c154_0 zcI_0 <|
  s_istore_n c154_1 (Nat.le_of_ble_eq_true rfl) True.intro <|
  s_const c154_2 zcI_0 <|
  s_istore c154_3 (Nat.le_of_ble_eq_true rfl) True.intro <|
  kk
theorem b154_5 {x1 : Int32} {x2 : Int32} {x3 : Int32} {x4 : Int32} {l5 : Value} {l6 : Value} (k1 : x1 ≤ x4 → RUN X C 154 Q 110 [.ref 33, .int x1, .int x2, .int x3, .int x4, l5, l6] [] (mk (zDm D) ct)) (k2 : ¬ x1 ≤ x4 → RUN X C 154 Q 11 [.ref 33, .int x1, .int x2, .int x3, .int x4, l5, l6] [] (mk (zDm D) ct)) : RUN X C 154 Q 5 [.ref 33, .int x1, .int x2, .int x3, .int x4, l5, l6] [] (mk (zDm D) ct) :=
  s_iload c154_5 rfl <|
  s_iload_n c154_7 rfl <|
  s_icge c154_8 k1 k2
theorem b154_11 {x1 : Int32} {x2 : Int32} {x3 : Int32} {x4 : Int32} {l5 : Value} {l6 : Value} {j17 : Nat} (hx17 : zix x4 j17 3) (k1 : x2 = (nI 0) → RUN X C 154 Q 45 [.ref 33, .int x1, .int x2, .int x3, .int x4, .int (ct 44 j17), l6] [] (mk (zDm D) ct)) (k2 : ¬ x2 = (nI 0) → RUN X C 154 Q 24 [.ref 33, .int x1, .int x2, .int x3, .int x4, .int (ct 44 j17), l6] [] (mk (zDm D) ct)) : RUN X C 154 Q 11 [.ref 33, .int x1, .int x2, .int x3, .int x4, l5, l6] [] (mk (zDm D) ct) :=
  s_aload_n c154_11 rfl <|
  s_getf (ct := ct) c154_12 rfl (by decide) rfl <|
  s_iload c154_15 rfl <|
  s_iald (ct := ct) c154_17 rfl hx17 <|
  s_istore c154_18 (Nat.le_of_ble_eq_true rfl) True.intro <|
  s_iload_n c154_20 rfl <|
  s_ifeq c154_21 k1 k2
theorem b154_24 {x1 : Int32} {x2 : Int32} {x3 : Int32} {x4 : Int32} {x5 : Int32} {l6 : Value} {j33 : Nat} (hx33 : zix ((nI 72) + x5) j33 111) (k1 : (ct 36 j33) = (nI 0) → RUN X C 154 Q 37 [.ref 33, .int x1, .int x2, .int x3, .int x4, .int x5, l6] [] (mk (zDm D) ct)) (k2 : ¬ (ct 36 j33) = (nI 0) → RUN X C 154 Q 41 [.ref 33, .int x1, .int x2, .int x3, .int x4, .int x5, l6] [] (mk (zDm D) ct)) : RUN X C 154 Q 24 [.ref 33, .int x1, .int x2, .int x3, .int x4, .int x5, l6] [] (mk (zDm D) ct) :=
  s_aload_n c154_24 rfl <|
  s_getf (ct := ct) c154_25 rfl (by decide) rfl <|
  s_bipush c154_28 zcB_72 <|
  s_iload c154_30 rfl <|
  s_iadd c154_32 <|
  s_iald (ct := ct) c154_33 rfl hx33 <|
  s_ifne c154_34 k1 k2
theorem b154_37 {x1 : Int32} {x2 : Int32} {x3 : Int32} {x4 : Int32} {x5 : Int32} {l6 : Value} (k1 : (nI 1) = (nI 0) → RUN X C 154 Q 79 [.ref 33, .int x1, .int x2, .int x3, .int x4, .int x5, .int (nI 1)] [] (mk (zDm D) ct)) (k2 : ¬ (nI 1) = (nI 0) → RUN X C 154 Q 80 [.ref 33, .int x1, .int x2, .int x3, .int x4, .int x5, .int (nI 1)] [] (mk (zDm D) ct)) : RUN X C 154 Q 37 [.ref 33, .int x1, .int x2, .int x3, .int x4, .int x5, l6] [] (mk (zDm D) ct) :=
  s_const c154_37 zcI_1 <|
  s_goto c154_38 <|
  s_istore c154_72 (Nat.le_of_ble_eq_true rfl) True.intro <|
  s_iload c154_74 rfl <|
  s_ifne c154_76 k1 k2
theorem b154_41 {x1 : Int32} {x2 : Int32} {x3 : Int32} {x4 : Int32} {x5 : Int32} {l6 : Value} (k1 : (nI 0) = (nI 0) → RUN X C 154 Q 79 [.ref 33, .int x1, .int x2, .int x3, .int x4, .int x5, .int (nI 0)] [] (mk (zDm D) ct)) (k2 : ¬ (nI 0) = (nI 0) → RUN X C 154 Q 80 [.ref 33, .int x1, .int x2, .int x3, .int x4, .int x5, .int (nI 0)] [] (mk (zDm D) ct)) : RUN X C 154 Q 41 [.ref 33, .int x1, .int x2, .int x3, .int x4, .int x5, l6] [] (mk (zDm D) ct) :=
  s_const c154_41 zcI_0 <|
  s_goto c154_42 <|
  s_istore c154_72 (Nat.le_of_ble_eq_true rfl) True.intro <|
  s_iload c154_74 rfl <|
  s_ifne c154_76 k1 k2
theorem b154_45 {x1 : Int32} {x2 : Int32} {x3 : Int32} {x4 : Int32} {x5 : Int32} {l6 : Value} {j53 : Nat} (hx53 : zix ((nI 0) + x5) j53 111) {j63 : Nat} (hx63 : zix ((nI 9) + x5) j63 81) (k1 : (ct 36 j53) = (ct 34 j63) → RUN X C 154 Q 71 [.ref 33, .int x1, .int x2, .int x3, .int x4, .int x5, l6] [] (mk (zDm D) ct)) (k2 : ¬ (ct 36 j53) = (ct 34 j63) → RUN X C 154 Q 67 [.ref 33, .int x1, .int x2, .int x3, .int x4, .int x5, l6] [] (mk (zDm D) ct)) : RUN X C 154 Q 45 [.ref 33, .int x1, .int x2, .int x3, .int x4, .int x5, l6] [] (mk (zDm D) ct) :=
  s_aload_n c154_45 rfl <|
  s_getf (ct := ct) c154_46 rfl (by decide) rfl <|
  s_const c154_49 zcI_0 <|
  s_iload c154_50 rfl <|
  s_iadd c154_52 <|
  s_iald (ct := ct) c154_53 rfl hx53 <|
  s_aload_n c154_54 rfl <|
  s_getf (ct := ct) c154_55 rfl (by decide) rfl <|
  s_bipush c154_58 zcB_9 <|
  s_iload c154_60 rfl <|
  s_iadd c154_62 <|
  s_iald (ct := ct) c154_63 rfl hx63 <|
  s_iceq c154_64 k1 k2
theorem b154_67 {x1 : Int32} {x2 : Int32} {x3 : Int32} {x4 : Int32} {x5 : Int32} {l6 : Value} (k1 : (nI 1) = (nI 0) → RUN X C 154 Q 79 [.ref 33, .int x1, .int x2, .int x3, .int x4, .int x5, .int (nI 1)] [] (mk (zDm D) ct)) (k2 : ¬ (nI 1) = (nI 0) → RUN X C 154 Q 80 [.ref 33, .int x1, .int x2, .int x3, .int x4, .int x5, .int (nI 1)] [] (mk (zDm D) ct)) : RUN X C 154 Q 67 [.ref 33, .int x1, .int x2, .int x3, .int x4, .int x5, l6] [] (mk (zDm D) ct) :=
  s_const c154_67 zcI_1 <|
  s_goto c154_68 <|
  s_istore c154_72 (Nat.le_of_ble_eq_true rfl) True.intro <|
  s_iload c154_74 rfl <|
  s_ifne c154_76 k1 k2
theorem b154_71 {x1 : Int32} {x2 : Int32} {x3 : Int32} {x4 : Int32} {x5 : Int32} {l6 : Value} (k1 : (nI 0) = (nI 0) → RUN X C 154 Q 79 [.ref 33, .int x1, .int x2, .int x3, .int x4, .int x5, .int (nI 0)] [] (mk (zDm D) ct)) (k2 : ¬ (nI 0) = (nI 0) → RUN X C 154 Q 80 [.ref 33, .int x1, .int x2, .int x3, .int x4, .int x5, .int (nI 0)] [] (mk (zDm D) ct)) : RUN X C 154 Q 71 [.ref 33, .int x1, .int x2, .int x3, .int x4, .int x5, l6] [] (mk (zDm D) ct) :=
  s_const c154_71 zcI_0 <|
  s_istore c154_72 (Nat.le_of_ble_eq_true rfl) True.intro <|
  s_iload c154_74 rfl <|
  s_ifne c154_76 k1 k2
theorem b154_79 {x1 : Int32} {x2 : Int32} {x3 : Int32} {x4 : Int32} {x5 : Int32} {x6 : Int32} (hq : Q none (mk (zDm D) ct)) : RUN X C 154 Q 79 [.ref 33, .int x1, .int x2, .int x3, .int x4, .int x5, .int x6] [] (mk (zDm D) ct) :=
  s_ret c154_79 rfl hq
theorem b154_80 {x1 : Int32} {x2 : Int32} {x3 : Int32} {x4 : Int32} {x5 : Int32} {x6 : Int32} (k1 : x2 = (nI 0) → RUN X C 154 Q 89 [.ref 33, .int x1, .int x2, .int x3, .int x4, .int x5, .int x6] [.int x3] (mk (zDm D) ct)) (k2 : ¬ x2 = (nI 0) → RUN X C 154 Q 85 [.ref 33, .int x1, .int x2, .int x3, .int x4, .int x5, .int x6] [.int x3] (mk (zDm D) ct)) : RUN X C 154 Q 80 [.ref 33, .int x1, .int x2, .int x3, .int x4, .int x5, .int x6] [] (mk (zDm D) ct) :=
  s_iload_n c154_80 rfl <|
  s_iload_n c154_81 rfl <|
  s_ifeq c154_82 k1 k2
theorem b154_85 {x1 : Int32} {x2 : Int32} {x3 : Int32} {x4 : Int32} {x5 : Int32} {x6 : Int32} {xs0 : Int32} (kk : RUN X C 154 Q 5 [.ref 33, .int x1, .int x2, .int (xs0 + (nI 1)), .int (x4 + nI 1), .int x5, .int x6] [] (mk (zDm D) ct)) : RUN X C 154 Q 85 [.ref 33, .int x1, .int x2, .int x3, .int x4, .int x5, .int x6] [.int xs0] (mk (zDm D) ct) :=
  s_const c154_85 zcI_1 <|
  s_goto c154_86 <|
  s_iadd c154_102 <|
  s_istore_n c154_103 (Nat.le_of_ble_eq_true rfl) True.intro <|
  s_iinc c154_104 rfl True.intro zcI_1 <|
  s_goto c154_107 <|
  kk
theorem b154_89 {x1 : Int32} {x2 : Int32} {x3 : Int32} {x4 : Int32} {x5 : Int32} {x6 : Int32} {xs0 : Int32} {D1 : zD} {ct1 : zM} {v1 : Int32} {j98 : Nat} (hx98 : zix ((nI 9) + x5) j98 81) (he : C 130 [.int (ct 34 j98)] (mk (zDm D) ct) (some (.int v1)) (mk D1 ct1)) (kk : RUN X C 154 Q 102 [.ref 33, .int x1, .int x2, .int x3, .int x4, .int x5, .int x6] [.int v1, .int xs0] (mk D1 ct1)) : RUN X C 154 Q 89 [.ref 33, .int x1, .int x2, .int x3, .int x4, .int x5, .int x6] [.int xs0] (mk (zDm D) ct) :=
  s_aload_n c154_89 rfl <|
  s_getf (ct := ct) c154_90 rfl (by decide) rfl <|
  s_bipush c154_93 zcB_9 <|
  s_iload c154_95 rfl <|
  s_iadd c154_97 <|
  s_iald (ct := ct) c154_98 rfl hx98 <|
  s_calls (args := [.int (ct 34 j98)]) (r := [.int xs0]) c154_99 rfl rfl (Nat.le_of_ble_eq_true rfl) he kk
theorem b154_102 {x1 : Int32} {x2 : Int32} {x3 : Int32} {x4 : Int32} {x5 : Int32} {x6 : Int32} {xs0 : Int32} {xs1 : Int32} (kk : RUN X C 154 Q 5 [.ref 33, .int x1, .int x2, .int (xs0 + xs1), .int (x4 + nI 1), .int x5, .int x6] [] (mk (zDm D) ct)) : RUN X C 154 Q 102 [.ref 33, .int x1, .int x2, .int x3, .int x4, .int x5, .int x6] [.int xs1, .int xs0] (mk (zDm D) ct) :=
  s_iadd c154_102 <|
  s_istore_n c154_103 (Nat.le_of_ble_eq_true rfl) True.intro <|
  s_iinc c154_104 rfl True.intro zcI_1 <|
  s_goto c154_107 <|
  kk
theorem b154_110 {x1 : Int32} {x2 : Int32} {x3 : Int32} {x4 : Int32} {l5 : Value} {l6 : Value} (k1 : x3 < (ct 33 18) → RUN X C 154 Q 119 [.ref 33, .int x1, .int x2, .int x3, .int x4, l5, l6] [] (mk (zDm D) ct)) (k2 : ¬ x3 < (ct 33 18) → RUN X C 154 Q 118 [.ref 33, .int x1, .int x2, .int x3, .int x4, l5, l6] [] (mk (zDm D) ct)) : RUN X C 154 Q 110 [.ref 33, .int x1, .int x2, .int x3, .int x4, l5, l6] [] (mk (zDm D) ct) :=
  s_iload_n c154_110 rfl <|
  s_aload_n c154_111 rfl <|
  s_getf (ct := ct) c154_112 rfl (by decide) rfl <|
  s_iclt c154_115 k1 k2
theorem b154_118 {x1 : Int32} {x2 : Int32} {x3 : Int32} {x4 : Int32} {l5 : Value} {l6 : Value} (hq : Q none (mk (zDm D) ct)) : RUN X C 154 Q 118 [.ref 33, .int x1, .int x2, .int x3, .int x4, l5, l6] [] (mk (zDm D) ct) :=
  s_ret c154_118 rfl hq
theorem b154_119 {x1 : Int32} {x2 : Int32} {x3 : Int32} {x4 : Int32} {l5 : Value} {l6 : Value} {D1 : zD} {ct1 : zM} (he : C 149 [.ref 33] (mk (zDm D) ct) none (mk D1 ct1)) (kk : RUN X C 154 Q 123 [.ref 33, .int x1, .int x2, .int x3, .int x4, l5, l6] [] (mk D1 ct1)) : RUN X C 154 Q 119 [.ref 33, .int x1, .int x2, .int x3, .int x4, l5, l6] [] (mk (zDm D) ct) :=
  s_aload_n c154_119 rfl <|
  s_callv (args := []) (r := []) c154_120 rfl rfl (Nat.le_of_ble_eq_true rfl) rfl ⟨rfl, by decide⟩ he kk
theorem b154_123 {x1 : Int32} {x2 : Int32} {x3 : Int32} {x4 : Int32} {l5 : Value} {l6 : Value} (kk : RUN X C 154 Q 126 [.ref 33, .int x1, .int x2, .int x3, .int (nI 0), l5, l6] [] (mk (zDm D) ct)) : RUN X C 154 Q 123 [.ref 33, .int x1, .int x2, .int x3, .int x4, l5, l6] [] (mk (zDm D) ct) :=
  s_const c154_123 zcI_0 <|
  s_istore c154_124 (Nat.le_of_ble_eq_true rfl) True.intro <|
  kk
theorem b154_126 {x1 : Int32} {x2 : Int32} {x3 : Int32} {x4 : Int32} {l5 : Value} {l6 : Value} (k1 : x1 ≤ x4 → RUN X C 154 Q 190 [.ref 33, .int x1, .int x2, .int x3, .int x4, l5, l6] [] (mk (zDm D) ct)) (k2 : ¬ x1 ≤ x4 → RUN X C 154 Q 132 [.ref 33, .int x1, .int x2, .int x3, .int x4, l5, l6] [] (mk (zDm D) ct)) : RUN X C 154 Q 126 [.ref 33, .int x1, .int x2, .int x3, .int x4, l5, l6] [] (mk (zDm D) ct) :=
  s_iload c154_126 rfl <|
  s_iload_n c154_128 rfl <|
  s_icge c154_129 k1 k2
theorem b154_132 {x1 : Int32} {x2 : Int32} {x3 : Int32} {x4 : Int32} {l5 : Value} {l6 : Value} (k1 : x2 = (nI 0) → RUN X C 154 Q 155 [.ref 33, .int x1, .int x2, .int x3, .int x4, l5, l6] [] (mk (zDm D) ct)) (k2 : ¬ x2 = (nI 0) → RUN X C 154 Q 136 [.ref 33, .int x1, .int x2, .int x3, .int x4, l5, l6] [] (mk (zDm D) ct)) : RUN X C 154 Q 132 [.ref 33, .int x1, .int x2, .int x3, .int x4, l5, l6] [] (mk (zDm D) ct) :=
  s_iload_n c154_132 rfl <|
  s_ifeq c154_133 k1 k2
theorem b154_136 {x1 : Int32} {x2 : Int32} {x3 : Int32} {x4 : Int32} {l5 : Value} {l6 : Value} {j148 : Nat} (hx148 : zix x4 j148 3) {j151 : Nat} (hx151 : zix ((nI 72) + (ct 44 j148)) j151 111) (kk : RUN X C 154 Q 126 [.ref 33, .int x1, .int x2, .int x3, .int (x4 + nI 1), l5, l6] [] (mk (zDm D) (u2 ct 37 j151 (nI 1)))) : RUN X C 154 Q 136 [.ref 33, .int x1, .int x2, .int x3, .int x4, l5, l6] [] (mk (zDm D) ct) :=
  s_aload_n c154_136 rfl <|
  s_getf (ct := ct) c154_137 rfl (by decide) rfl <|
  s_bipush c154_140 zcB_72 <|
  s_aload_n c154_142 rfl <|
  s_getf (ct := ct) c154_143 rfl (by decide) rfl <|
  s_iload c154_146 rfl <|
  s_iald (ct := ct) c154_148 rfl hx148 <|
  s_iadd c154_149 <|
  s_const c154_150 zcI_1 <|
  s_iast (ct := ct) c154_151 rfl hx151 <|
  s_goto c154_152 <|
  s_iinc c154_184 rfl True.intro zcI_1 <|
  s_goto c154_187 <|
  kk
theorem b154_155 {x1 : Int32} {x2 : Int32} {x3 : Int32} {x4 : Int32} {l5 : Value} {l6 : Value} {D1 : zD} {ct1 : zM} {j165 : Nat} (hx165 : zix x4 j165 3) {j178 : Nat} (hx178 : zix x4 j178 3) {j180 : Nat} (hx180 : zix ((nI 9) + (ct 44 j178)) j180 81) (he : C 138 [.ref 37, .int (ct 44 j165), .int (ct 34 j180)] (mk (zDm D) ct) none (mk D1 ct1)) (kk : RUN X C 154 Q 184 [.ref 33, .int x1, .int x2, .int x3, .int x4, l5, l6] [] (mk D1 ct1)) : RUN X C 154 Q 155 [.ref 33, .int x1, .int x2, .int x3, .int x4, l5, l6] [] (mk (zDm D) ct) :=
  s_aload_n c154_155 rfl <|
  s_getf (ct := ct) c154_156 rfl (by decide) rfl <|
  s_aload_n c154_159 rfl <|
  s_getf (ct := ct) c154_160 rfl (by decide) rfl <|
  s_iload c154_163 rfl <|
  s_iald (ct := ct) c154_165 rfl hx165 <|
  s_aload_n c154_166 rfl <|
  s_getf (ct := ct) c154_167 rfl (by decide) rfl <|
  s_bipush c154_170 zcB_9 <|
  s_aload_n c154_172 rfl <|
  s_getf (ct := ct) c154_173 rfl (by decide) rfl <|
  s_iload c154_176 rfl <|
  s_iald (ct := ct) c154_178 rfl hx178 <|
  s_iadd c154_179 <|
  s_iald (ct := ct) c154_180 rfl hx180 <|
  s_calls (args := [.ref 37, .int (ct 44 j165), .int (ct 34 j180)]) (r := []) c154_181 rfl rfl (Nat.le_of_ble_eq_true rfl) he kk
theorem b154_184 {x1 : Int32} {x2 : Int32} {x3 : Int32} {x4 : Int32} {l5 : Value} {l6 : Value} (kk : RUN X C 154 Q 126 [.ref 33, .int x1, .int x2, .int x3, .int (x4 + nI 1), l5, l6] [] (mk (zDm D) ct)) : RUN X C 154 Q 184 [.ref 33, .int x1, .int x2, .int x3, .int x4, l5, l6] [] (mk (zDm D) ct) :=
  s_iinc c154_184 rfl True.intro zcI_1 <|
  s_goto c154_187 <|
  kk
theorem b154_190 {x1 : Int32} {x2 : Int32} {x3 : Int32} {x4 : Int32} {l5 : Value} {l6 : Value} {D1 : zD} {ct1 : zM} {v1 : Int32} (he : C 134 [.ref 33, .ref 37] (mk (zDm D) ct) (some (.int v1)) (mk D1 ct1)) (kk : RUN X C 154 Q 198 [.ref 33, .int x1, .int x2, .int x3, .int x4, l5, l6] [.int v1] (mk D1 ct1)) : RUN X C 154 Q 190 [.ref 33, .int x1, .int x2, .int x3, .int x4, l5, l6] [] (mk (zDm D) ct) :=
  s_aload_n c154_190 rfl <|
  s_aload_n c154_191 rfl <|
  s_getf (ct := ct) c154_192 rfl (by decide) rfl <|
  s_callv (args := [.ref 37]) (r := []) c154_195 rfl rfl (Nat.le_of_ble_eq_true rfl) rfl ⟨rfl, by decide⟩ he kk
theorem b154_198 {x1 : Int32} {x2 : Int32} {x3 : Int32} {x4 : Int32} {l5 : Value} {l6 : Value} {xs0 : Int32} (k1 : xs0 = (nI 0) → RUN X C 154 Q 225 [.ref 33, .int x1, .int x2, .int x3, .int x4, l5, l6] [] (mk (zDm D) ct)) (k2 : ¬ xs0 = (nI 0) → RUN X C 154 Q 201 [.ref 33, .int x1, .int x2, .int x3, .int x4, l5, l6] [] (mk (zDm D) ct)) : RUN X C 154 Q 198 [.ref 33, .int x1, .int x2, .int x3, .int x4, l5, l6] [.int xs0] (mk (zDm D) ct) :=
  s_ifeq c154_198 k1 k2
theorem b154_201 {x1 : Int32} {x2 : Int32} {x3 : Int32} {x4 : Int32} {l5 : Value} {l6 : Value} {D1 : zD} {ct1 : zM} (he : C 106 [.ref 44, .int (nI 0), .ref 43, .int (nI 0), .int (nI 3)] (mk (zDm D) (u2 (u2 ct 33 18 x3) 33 17 x1)) none (mk D1 ct1)) (kk : RUN X C 154 Q 225 [.ref 33, .int x1, .int x2, .int x3, .int x4, l5, l6] [] (mk D1 ct1)) : RUN X C 154 Q 201 [.ref 33, .int x1, .int x2, .int x3, .int x4, l5, l6] [] (mk (zDm D) ct) :=
  s_aload_n c154_201 rfl <|
  s_iload_n c154_202 rfl <|
  s_putf (ct := ct) c154_203 rfl (by decide) zint_7_18 xfit_7_18 <|
  s_aload_n c154_206 rfl <|
  s_iload_n c154_207 rfl <|
  s_putf (ct := (u2 ct 33 18 x3)) c154_208 rfl (by decide) zint_7_17 xfit_7_17 <|
  s_aload_n c154_211 rfl <|
  s_getf (ct := (u2 (u2 ct 33 18 x3) 33 17 x1)) c154_212 rfl (by decide) rfl <|
  s_const c154_215 zcI_0 <|
  s_aload_n c154_216 rfl <|
  s_getf (ct := (u2 (u2 ct 33 18 x3) 33 17 x1)) c154_217 rfl (by decide) rfl <|
  s_const c154_220 zcI_0 <|
  s_const c154_221 zcI_3 <|
  s_calls (args := [.ref 44, .int (nI 0), .ref 43, .int (nI 0), .int (nI 3)]) (r := []) c154_222 rfl rfl (Nat.le_of_ble_eq_true rfl) he kk
theorem b154_225 {x1 : Int32} {x2 : Int32} {x3 : Int32} {x4 : Int32} {l5 : Value} {l6 : Value} (hq : Q none (mk (zDm D) ct)) : RUN X C 154 Q 225 [.ref 33, .int x1, .int x2, .int x3, .int x4, l5, l6] [] (mk (zDm D) ct) :=
  s_ret c154_225 rfl hq
-- ('PaintedTownModel', 'canvases', '(I)I')
theorem b155_0 {x1 : Int32} {D1 : zD} {ct1 : zM} {v1 : Int32} (he : C 152 [.ref 33, .int x1, .int (nI 1)] (mk (zDm D) ct) (some (.int v1)) (mk D1 ct1)) (kk : RUN X C 155 Q 6 [.ref 33, .int x1] [.int v1] (mk D1 ct1)) : RUN X C 155 Q 0 [.ref 33, .int x1] [] (mk (zDm D) ct) :=
  s_aload_n c155_0 rfl <|
  s_iload_n c155_1 rfl <|
  s_const c155_2 zcI_1 <|
  s_callv (args := [.int x1, .int (nI 1)]) (r := []) c155_3 rfl rfl (Nat.le_of_ble_eq_true rfl) rfl ⟨rfl, by decide⟩ he kk
theorem b155_6 {x1 : Int32} {xs0 : Int32} (hq : Q (some (.int xs0)) (mk (zDm D) ct)) : RUN X C 155 Q 6 [.ref 33, .int x1] [.int xs0] (mk (zDm D) ct) :=
  s_iret c155_6 (xrtI rfl) hq
-- ('PaintedTownModel', 'never', '(I)I')
theorem b156_0 {x1 : Int32} {l2 : Value} {l3 : Value} {l4 : Value} {D1 : zD} {ct1 : zM} {v1 : Int32} (he : C 108 [.long (x1.toInt64), .long (lN 0), .long (((ct 34 0) - (nI 1)).toInt64)] (mk (zDm D) ct) (some (.int v1)) (mk D1 ct1)) (kk : RUN X C 156 Q 15 [.ref 33, .int x1, l2, l3, l4] [.int v1] (mk D1 ct1)) : RUN X C 156 Q 0 [.ref 33, .int x1, l2, l3, l4] [] (mk (zDm D) ct) :=
  s_iload_n c156_0 rfl <|
  s_i2l c156_1 <|
  s_lconst c156_2 <|
  s_aload_n c156_3 rfl <|
  s_getf (ct := ct) c156_4 rfl (by decide) rfl <|
  s_const c156_7 zcI_0 <|
  s_iald (ct := ct) c156_8 rfl (zix_nI (by decide) (by decide)) <|
  s_const c156_9 zcI_1 <|
  s_isub c156_10 <|
  s_i2l c156_11 <|
  s_calls (args := [.long (x1.toInt64), .long (lN 0), .long (((ct 34 0) - (nI 1)).toInt64)]) (r := []) c156_12 rfl rfl (Nat.le_of_ble_eq_true rfl) he kk
theorem b156_15 {x1 : Int32} {l2 : Value} {l3 : Value} {l4 : Value} {xs0 : Int32} (k1 : xs0 = (nI 0) → RUN X C 156 Q 18 [.ref 33, .int x1, l2, l3, l4] [] (mk (zDm D) ct)) (k2 : ¬ xs0 = (nI 0) → RUN X C 156 Q 20 [.ref 33, .int x1, l2, l3, l4] [] (mk (zDm D) ct)) : RUN X C 156 Q 15 [.ref 33, .int x1, l2, l3, l4] [.int xs0] (mk (zDm D) ct) :=
  s_ifne c156_15 k1 k2
theorem b156_18 {x1 : Int32} {l2 : Value} {l3 : Value} {l4 : Value} (hq : Q (some (.int (-1))) (mk (zDm D) ct)) : RUN X C 156 Q 18 [.ref 33, .int x1, l2, l3, l4] [] (mk (zDm D) ct) :=
  s_const c156_18 zcI_m1 <|
  s_iret c156_19 (xrtI rfl) hq
theorem b156_20 {x1 : Int32} {l2 : Value} {l3 : Value} {l4 : Value} {D1 : zD} {ct1 : zM} (he : C 149 [.ref 33] (mk (zDm D) ct) none (mk D1 ct1)) (kk : RUN X C 156 Q 24 [.ref 33, .int x1, l2, l3, l4] [] (mk D1 ct1)) : RUN X C 156 Q 20 [.ref 33, .int x1, l2, l3, l4] [] (mk (zDm D) ct) :=
  s_aload_n c156_20 rfl <|
  s_callv (args := []) (r := []) c156_21 rfl rfl (Nat.le_of_ble_eq_true rfl) rfl ⟨rfl, by decide⟩ he kk
theorem b156_24 {x1 : Int32} {l2 : Value} {l3 : Value} {l4 : Value} (kk : RUN X C 156 Q 26 [.ref 33, .int x1, .int (nI 0), l3, l4] [] (mk (zDm D) ct)) : RUN X C 156 Q 24 [.ref 33, .int x1, l2, l3, l4] [] (mk (zDm D) ct) :=
  s_const c156_24 zcI_0 <|
  s_istore_n c156_25 (Nat.le_of_ble_eq_true rfl) True.intro <|
  kk
theorem b156_26 {x1 : Int32} {x2 : Int32} {l3 : Value} {l4 : Value} {D1 : zD} {ct1 : zM} {v1 : Int32} (he : C 122 [.ref 33] (mk (zDm D) ct) (some (.int v1)) (mk D1 ct1)) (kk : RUN X C 156 Q 31 [.ref 33, .int x1, .int x2, l3, l4] [.int v1, .int x2] (mk D1 ct1)) : RUN X C 156 Q 26 [.ref 33, .int x1, .int x2, l3, l4] [] (mk (zDm D) ct) :=
  s_iload_n c156_26 rfl <|
  s_aload_n c156_27 rfl <|
  s_callv (args := []) (r := [.int x2]) c156_28 rfl rfl (Nat.le_of_ble_eq_true rfl) rfl ⟨rfl, by decide⟩ he kk
theorem b156_31 {x1 : Int32} {x2 : Int32} {l3 : Value} {l4 : Value} {xs0 : Int32} {xs1 : Int32} (k1 : xs1 ≤ xs0 → RUN X C 156 Q 114 [.ref 33, .int x1, .int x2, l3, l4] [] (mk (zDm D) ct)) (k2 : ¬ xs1 ≤ xs0 → RUN X C 156 Q 34 [.ref 33, .int x1, .int x2, l3, l4] [] (mk (zDm D) ct)) : RUN X C 156 Q 31 [.ref 33, .int x1, .int x2, l3, l4] [.int xs1, .int xs0] (mk (zDm D) ct) :=
  s_icge c156_31 k1 k2
theorem b156_34 {x1 : Int32} {x2 : Int32} {l3 : Value} {l4 : Value} {j41 : Nat} (hx41 : zix ((nI 0) + x2) j41 111) (k1 : (ct 36 j41) = (nI 5) → RUN X C 156 Q 46 [.ref 33, .int x1, .int x2, l3, l4] [] (mk (zDm D) ct)) (k2 : ¬ (ct 36 j41) = (nI 5) → RUN X C 156 Q 63 [.ref 33, .int x1, .int x2, l3, l4] [] (mk (zDm D) ct)) : RUN X C 156 Q 34 [.ref 33, .int x1, .int x2, l3, l4] [] (mk (zDm D) ct) :=
  s_aload_n c156_34 rfl <|
  s_getf (ct := ct) c156_35 rfl (by decide) rfl <|
  s_const c156_38 zcI_0 <|
  s_iload_n c156_39 rfl <|
  s_iadd c156_40 <|
  s_iald (ct := ct) c156_41 rfl hx41 <|
  s_const c156_42 zcI_5 <|
  s_icne c156_43 k1 k2
theorem b156_46 {x1 : Int32} {x2 : Int32} {l3 : Value} {l4 : Value} {j54 : Nat} (hx54 : zix ((nI 9) + x2) j54 81) (k1 : (ct 34 j54) = (nI 5) → RUN X C 156 Q 59 [.ref 33, .int x1, .int x2, l3, l4] [] (mk (zDm D) ct)) (k2 : ¬ (ct 34 j54) = (nI 5) → RUN X C 156 Q 63 [.ref 33, .int x1, .int x2, l3, l4] [] (mk (zDm D) ct)) : RUN X C 156 Q 46 [.ref 33, .int x1, .int x2, l3, l4] [] (mk (zDm D) ct) :=
  s_aload_n c156_46 rfl <|
  s_getf (ct := ct) c156_47 rfl (by decide) rfl <|
  s_bipush c156_50 zcB_9 <|
  s_iload_n c156_52 rfl <|
  s_iadd c156_53 <|
  s_iald (ct := ct) c156_54 rfl hx54 <|
  s_const c156_55 zcI_5 <|
  s_icne c156_56 k1 k2
theorem b156_59 {x1 : Int32} {x2 : Int32} {l3 : Value} {l4 : Value} {j80 : Nat} (hx80 : zix ((nI 9) + x2) j80 81) {j81 : Nat} (hx81 : zix ((nI 0) + x2) j81 111) (k1 : (nI 1) = (nI 0) → RUN X C 156 Q 106 [.ref 33, .int x1, .int x2, .int (nI 1), l4] [.int ((nI 36) + x2), .ref 37] (mk (zDm D) (u2 ct 37 j81 (ct 34 j80)))) (k2 : ¬ (nI 1) = (nI 0) → RUN X C 156 Q 94 [.ref 33, .int x1, .int x2, .int (nI 1), l4] [.int ((nI 36) + x2), .ref 37] (mk (zDm D) (u2 ct 37 j81 (ct 34 j80)))) : RUN X C 156 Q 59 [.ref 33, .int x1, .int x2, l3, l4] [] (mk (zDm D) ct) :=
  s_const c156_59 zcI_1 <|
  s_goto c156_60 <|
  s_istore_n c156_64 (Nat.le_of_ble_eq_true rfl) True.intro <|
  s_aload_n c156_65 rfl <|
  s_getf (ct := ct) c156_66 rfl (by decide) rfl <|
  s_const c156_69 zcI_0 <|
  s_iload_n c156_70 rfl <|
  s_iadd c156_71 <|
  s_aload_n c156_72 rfl <|
  s_getf (ct := ct) c156_73 rfl (by decide) rfl <|
  s_bipush c156_76 zcB_9 <|
  s_iload_n c156_78 rfl <|
  s_iadd c156_79 <|
  s_iald (ct := ct) c156_80 rfl hx80 <|
  s_iast (ct := ct) c156_81 rfl hx81 <|
  s_aload_n c156_82 rfl <|
  s_getf (ct := (u2 ct 37 j81 (ct 34 j80))) c156_83 rfl (by decide) rfl <|
  s_bipush c156_86 zcB_36 <|
  s_iload_n c156_88 rfl <|
  s_iadd c156_89 <|
  s_iload_n c156_90 rfl <|
  s_ifeq c156_91 k1 k2
theorem b156_63 {x1 : Int32} {x2 : Int32} {l3 : Value} {l4 : Value} {j80 : Nat} (hx80 : zix ((nI 9) + x2) j80 81) {j81 : Nat} (hx81 : zix ((nI 0) + x2) j81 111) (k1 : (nI 0) = (nI 0) → RUN X C 156 Q 106 [.ref 33, .int x1, .int x2, .int (nI 0), l4] [.int ((nI 36) + x2), .ref 37] (mk (zDm D) (u2 ct 37 j81 (ct 34 j80)))) (k2 : ¬ (nI 0) = (nI 0) → RUN X C 156 Q 94 [.ref 33, .int x1, .int x2, .int (nI 0), l4] [.int ((nI 36) + x2), .ref 37] (mk (zDm D) (u2 ct 37 j81 (ct 34 j80)))) : RUN X C 156 Q 63 [.ref 33, .int x1, .int x2, l3, l4] [] (mk (zDm D) ct) :=
  s_const c156_63 zcI_0 <|
  s_istore_n c156_64 (Nat.le_of_ble_eq_true rfl) True.intro <|
  s_aload_n c156_65 rfl <|
  s_getf (ct := ct) c156_66 rfl (by decide) rfl <|
  s_const c156_69 zcI_0 <|
  s_iload_n c156_70 rfl <|
  s_iadd c156_71 <|
  s_aload_n c156_72 rfl <|
  s_getf (ct := ct) c156_73 rfl (by decide) rfl <|
  s_bipush c156_76 zcB_9 <|
  s_iload_n c156_78 rfl <|
  s_iadd c156_79 <|
  s_iald (ct := ct) c156_80 rfl hx80 <|
  s_iast (ct := ct) c156_81 rfl hx81 <|
  s_aload_n c156_82 rfl <|
  s_getf (ct := (u2 ct 37 j81 (ct 34 j80))) c156_83 rfl (by decide) rfl <|
  s_bipush c156_86 zcB_36 <|
  s_iload_n c156_88 rfl <|
  s_iadd c156_89 <|
  s_iload_n c156_90 rfl <|
  s_ifeq c156_91 k1 k2
theorem b156_94 {x1 : Int32} {x2 : Int32} {x3 : Int32} {l4 : Value} {xs1 : Int32} {j102 : Nat} (hx102 : zix ((nI 36) + x2) j102 111) {j107 : Nat} (hx107 : zix xs1 j107 111) (kk : RUN X C 156 Q 26 [.ref 33, .int x1, .int (x2 + nI 1), .int x3, l4] [] (mk (zDm D) (u2 ct 37 j107 (ct 36 j102)))) : RUN X C 156 Q 94 [.ref 33, .int x1, .int x2, .int x3, l4] [.int xs1, .ref 37] (mk (zDm D) ct) :=
  s_aload_n c156_94 rfl <|
  s_getf (ct := ct) c156_95 rfl (by decide) rfl <|
  s_bipush c156_98 zcB_36 <|
  s_iload_n c156_100 rfl <|
  s_iadd c156_101 <|
  s_iald (ct := ct) c156_102 rfl hx102 <|
  s_goto c156_103 <|
  s_iast (ct := ct) c156_107 rfl hx107 <|
  s_iinc c156_108 rfl True.intro zcI_1 <|
  s_goto c156_111 <|
  kk
theorem b156_106 {x1 : Int32} {x2 : Int32} {x3 : Int32} {l4 : Value} {xs1 : Int32} {j107 : Nat} (hx107 : zix xs1 j107 111) (kk : RUN X C 156 Q 26 [.ref 33, .int x1, .int (x2 + nI 1), .int x3, l4] [] (mk (zDm D) (u2 ct 37 j107 (nI 0)))) : RUN X C 156 Q 106 [.ref 33, .int x1, .int x2, .int x3, l4] [.int xs1, .ref 37] (mk (zDm D) ct) :=
  s_const c156_106 zcI_0 <|
  s_iast (ct := ct) c156_107 rfl hx107 <|
  s_iinc c156_108 rfl True.intro zcI_1 <|
  s_goto c156_111 <|
  kk
theorem b156_114 {x1 : Int32} {x2 : Int32} {l3 : Value} {l4 : Value} (kk : RUN X C 156 Q 118 [.ref 33, .int x1, .int (nI 0), .int (nI 0), l4] [] (mk (zDm D) ct)) : RUN X C 156 Q 114 [.ref 33, .int x1, .int x2, l3, l4] [] (mk (zDm D) ct) :=
  s_const c156_114 zcI_0 <|
  s_istore_n c156_115 (Nat.le_of_ble_eq_true rfl) True.intro <|
  s_const c156_116 zcI_0 <|
  s_istore_n c156_117 (Nat.le_of_ble_eq_true rfl) True.intro <|
  kk
theorem b156_118 {x1 : Int32} {x2 : Int32} {x3 : Int32} {l4 : Value} (k1 : (ct 34 1) ≤ x3 → RUN X C 156 Q 179 [.ref 33, .int x1, .int x2, .int x3, l4] [] (mk (zDm D) ct)) (k2 : ¬ (ct 34 1) ≤ x3 → RUN X C 156 Q 128 [.ref 33, .int x1, .int x2, .int x3, l4] [] (mk (zDm D) ct)) : RUN X C 156 Q 118 [.ref 33, .int x1, .int x2, .int x3, l4] [] (mk (zDm D) ct) :=
  s_iload_n c156_118 rfl <|
  s_aload_n c156_119 rfl <|
  s_getf (ct := ct) c156_120 rfl (by decide) rfl <|
  s_const c156_123 zcI_1 <|
  s_iald (ct := ct) c156_124 rfl (zix_nI (by decide) (by decide)) <|
  s_icge c156_125 k1 k2
theorem b156_128 {x1 : Int32} {x2 : Int32} {x3 : Int32} {l4 : Value} {D1 : zD} {ct1 : zM} {v1 : Int32} (he : C 125 [.ref 33, .ref 37, .int ((x1 * (ct 34 1)) + x3)] (mk (zDm D) ct) (some (.int v1)) (mk D1 ct1)) (kk : RUN X C 156 Q 151 [.ref 33, .int x1, .int x2, .int x3, .int ((x1 * (ct 34 1)) + x3)] [.int v1, .int x2] (mk D1 ct1)) : RUN X C 156 Q 128 [.ref 33, .int x1, .int x2, .int x3, l4] [] (mk (zDm D) ct) :=
  s_iload_n c156_128 rfl <|
  s_aload_n c156_129 rfl <|
  s_getf (ct := ct) c156_130 rfl (by decide) rfl <|
  s_const c156_133 zcI_1 <|
  s_iald (ct := ct) c156_134 rfl (zix_nI (by decide) (by decide)) <|
  s_imul c156_135 <|
  s_iload_n c156_136 rfl <|
  s_iadd c156_137 <|
  s_istore c156_138 (Nat.le_of_ble_eq_true rfl) True.intro <|
  s_iload_n c156_140 rfl <|
  s_aload_n c156_141 rfl <|
  s_aload_n c156_142 rfl <|
  s_getf (ct := ct) c156_143 rfl (by decide) rfl <|
  s_iload c156_146 rfl <|
  s_callv (args := [.ref 37, .int ((x1 * (ct 34 1)) + x3)]) (r := [.int x2]) c156_148 rfl rfl (Nat.le_of_ble_eq_true rfl) rfl ⟨rfl, by decide⟩ he kk
theorem b156_151 {x1 : Int32} {x2 : Int32} {x3 : Int32} {x4 : Int32} {xs0 : Int32} {xs1 : Int32} {j160 : Nat} (hx160 : zix ((nI 9) + x4) j160 81) (k1 : xs1 = (ct 34 j160) → RUN X C 156 Q 164 [.ref 33, .int x1, .int x2, .int x3, .int x4] [.int xs0] (mk (zDm D) ct)) (k2 : ¬ xs1 = (ct 34 j160) → RUN X C 156 Q 168 [.ref 33, .int x1, .int x2, .int x3, .int x4] [.int xs0] (mk (zDm D) ct)) : RUN X C 156 Q 151 [.ref 33, .int x1, .int x2, .int x3, .int x4] [.int xs1, .int xs0] (mk (zDm D) ct) :=
  s_aload_n c156_151 rfl <|
  s_getf (ct := ct) c156_152 rfl (by decide) rfl <|
  s_bipush c156_155 zcB_9 <|
  s_iload c156_157 rfl <|
  s_iadd c156_159 <|
  s_iald (ct := ct) c156_160 rfl hx160 <|
  s_icne c156_161 k1 k2
theorem b156_164 {x1 : Int32} {x2 : Int32} {x3 : Int32} {x4 : Int32} {xs0 : Int32} (kk : RUN X C 156 Q 118 [.ref 33, .int x1, .int (xs0 ||| (nI 0)), .int (x3 + nI 1), .int x4] [] (mk (zDm D) ct)) : RUN X C 156 Q 164 [.ref 33, .int x1, .int x2, .int x3, .int x4] [.int xs0] (mk (zDm D) ct) :=
  s_const c156_164 zcI_0 <|
  s_goto c156_165 <|
  s_ior c156_171 <|
  s_istore_n c156_172 (Nat.le_of_ble_eq_true rfl) True.intro <|
  s_iinc c156_173 rfl True.intro zcI_1 <|
  s_goto c156_176 <|
  kk
theorem b156_168 {x1 : Int32} {x2 : Int32} {x3 : Int32} {x4 : Int32} {xs0 : Int32} (kk : RUN X C 156 Q 118 [.ref 33, .int x1, .int (xs0 ||| ((nI 1) <<< (x3 &&& 31))), .int (x3 + nI 1), .int x4] [] (mk (zDm D) ct)) : RUN X C 156 Q 168 [.ref 33, .int x1, .int x2, .int x3, .int x4] [.int xs0] (mk (zDm D) ct) :=
  s_const c156_168 zcI_1 <|
  s_iload_n c156_169 rfl <|
  s_ishl c156_170 <|
  s_ior c156_171 <|
  s_istore_n c156_172 (Nat.le_of_ble_eq_true rfl) True.intro <|
  s_iinc c156_173 rfl True.intro zcI_1 <|
  s_goto c156_176 <|
  kk
theorem b156_179 {x1 : Int32} {x2 : Int32} {x3 : Int32} {l4 : Value} (hq : Q (some (.int x2)) (mk (zDm D) ct)) : RUN X C 156 Q 179 [.ref 33, .int x1, .int x2, .int x3, l4] [] (mk (zDm D) ct) :=
  s_iload_n c156_179 rfl <|
  s_iret c156_180 (xrtI rfl) hq
-- ('PaintedTownModel', 'fined', '(II)I')
theorem b157_0 {x1 : Int32} {x2 : Int32} {D1 : zD} {ct1 : zM} {v1 : Int32} (he : C 108 [.long (x1.toInt64), .long (lN 0), .long (lN 3)] (mk (zDm D) ct) (some (.int v1)) (mk D1 ct1)) (kk : RUN X C 157 Q 9 [.ref 33, .int x1, .int x2] [.int v1] (mk D1 ct1)) : RUN X C 157 Q 0 [.ref 33, .int x1, .int x2] [] (mk (zDm D) ct) :=
  s_iload_n c157_0 rfl <|
  s_i2l c157_1 <|
  s_lconst c157_2 <|
  s_ldc2 c157_3 <|
  s_calls (args := [.long (x1.toInt64), .long (lN 0), .long (lN 3)]) (r := []) c157_6 rfl rfl (Nat.le_of_ble_eq_true rfl) he kk
theorem b157_9 {x1 : Int32} {x2 : Int32} {xs0 : Int32} (k1 : xs0 = (nI 0) → RUN X C 157 Q 24 [.ref 33, .int x1, .int x2] [] (mk (zDm D) ct)) (k2 : ¬ xs0 = (nI 0) → RUN X C 157 Q 12 [.ref 33, .int x1, .int x2] [] (mk (zDm D) ct)) : RUN X C 157 Q 9 [.ref 33, .int x1, .int x2] [.int xs0] (mk (zDm D) ct) :=
  s_ifeq c157_9 k1 k2
theorem b157_12 {x1 : Int32} {x2 : Int32} {D1 : zD} {ct1 : zM} {v1 : Int32} (he : C 108 [.long (x2.toInt64), .long (lN 0), .long (lN 999)] (mk (zDm D) ct) (some (.int v1)) (mk D1 ct1)) (kk : RUN X C 157 Q 21 [.ref 33, .int x1, .int x2] [.int v1] (mk D1 ct1)) : RUN X C 157 Q 12 [.ref 33, .int x1, .int x2] [] (mk (zDm D) ct) :=
  s_iload_n c157_12 rfl <|
  s_i2l c157_13 <|
  s_lconst c157_14 <|
  s_ldc2 c157_15 <|
  s_calls (args := [.long (x2.toInt64), .long (lN 0), .long (lN 999)]) (r := []) c157_18 rfl rfl (Nat.le_of_ble_eq_true rfl) he kk
theorem b157_21 {x1 : Int32} {x2 : Int32} {xs0 : Int32} (k1 : xs0 = (nI 0) → RUN X C 157 Q 24 [.ref 33, .int x1, .int x2] [] (mk (zDm D) ct)) (k2 : ¬ xs0 = (nI 0) → RUN X C 157 Q 26 [.ref 33, .int x1, .int x2] [] (mk (zDm D) ct)) : RUN X C 157 Q 21 [.ref 33, .int x1, .int x2] [.int xs0] (mk (zDm D) ct) :=
  s_ifne c157_21 k1 k2
theorem b157_24 {x1 : Int32} {x2 : Int32} (hq : Q (some (.int (-1))) (mk (zDm D) ct)) : RUN X C 157 Q 24 [.ref 33, .int x1, .int x2] [] (mk (zDm D) ct) :=
  s_const c157_24 zcI_m1 <|
  s_iret c157_25 (xrtI rfl) hq
theorem b157_26 {x1 : Int32} {x2 : Int32} (k1 : (ct 33 11) = (nI 6) → RUN X C 157 Q 35 [.ref 33, .int x1, .int x2] [] (mk (zDm D) ct)) (k2 : ¬ (ct 33 11) = (nI 6) → RUN X C 157 Q 38 [.ref 33, .int x1, .int x2] [] (mk (zDm D) ct)) : RUN X C 157 Q 26 [.ref 33, .int x1, .int x2] [] (mk (zDm D) ct) :=
  s_aload_n c157_26 rfl <|
  s_getf (ct := ct) c157_27 rfl (by decide) rfl <|
  s_bipush c157_30 zcB_6 <|
  s_icne c157_32 k1 k2
theorem b157_35 {x1 : Int32} {x2 : Int32} (hq : Q (some (.int (-3))) (mk (zDm D) ct)) : RUN X C 157 Q 35 [.ref 33, .int x1, .int x2] [] (mk (zDm D) ct) :=
  s_bipush c157_35 zcB_m3 <|
  s_iret c157_37 (xrtI rfl) hq
theorem b157_38 {x1 : Int32} {x2 : Int32} {j49 : Nat} (hx49 : zix ((nI 2) * (ct 33 11)) j49 12) {j63 : Nat} (hx63 : zix (((nI 2) * (ct 33 11)) + (nI 1)) j63 12) (hq : Q (some (.int ((ct 33 11) + (nI 1)))) (mk (zDm D) (u2 (u2 (u2 ct 41 j49 x1) 41 j63 x2) 33 11 ((ct 33 11) + (nI 1))))) : RUN X C 157 Q 38 [.ref 33, .int x1, .int x2] [] (mk (zDm D) ct) :=
  s_aload_n c157_38 rfl <|
  s_getf (ct := ct) c157_39 rfl (by decide) rfl <|
  s_const c157_42 zcI_2 <|
  s_aload_n c157_43 rfl <|
  s_getf (ct := ct) c157_44 rfl (by decide) rfl <|
  s_imul c157_47 <|
  s_iload_n c157_48 rfl <|
  s_iast (ct := ct) c157_49 rfl hx49 <|
  s_aload_n c157_50 rfl <|
  s_getf (ct := (u2 ct 41 j49 x1)) c157_51 rfl (by decide) rfl <|
  s_const c157_54 zcI_2 <|
  s_aload_n c157_55 rfl <|
  s_getf (ct := (u2 ct 41 j49 x1)) c157_56 rfl (by decide) rfl <|
  s_imul c157_59 <|
  s_const c157_60 zcI_1 <|
  s_iadd c157_61 <|
  s_iload_n c157_62 rfl <|
  s_iast (ct := (u2 ct 41 j49 x1)) c157_63 rfl hx63 <|
  s_aload_n c157_64 rfl <|
  s_dup c157_65 rfl <|
  s_getf (ct := (u2 (u2 ct 41 j49 x1) 41 j63 x2)) c157_66 rfl (by decide) rfl <|
  s_const c157_69 zcI_1 <|
  s_iadd c157_70 <|
  s_putf (ct := (u2 (u2 ct 41 j49 x1) 41 j63 x2)) c157_71 rfl (by decide) zint_7_11 xfit_7_11 <|
  s_aload_n c157_74 rfl <|
  s_getf (ct := (u2 (u2 (u2 ct 41 j49 x1) 41 j63 x2) 33 11 ((ct 33 11) + (nI 1)))) c157_75 rfl (by decide) rfl <|
  s_iret c157_78 (xrtI rfl) hq
-- ('PaintedTownModel', 'forget', '()I')
theorem b158_0 {l1 : Value} (hq : Q (some (.int (ct 33 11))) (mk (zDm D) (u2 ct 33 11 (nI 0)))) : RUN X C 158 Q 0 [.ref 33, l1] [] (mk (zDm D) ct) :=
  s_aload_n c158_0 rfl <|
  s_getf (ct := ct) c158_1 rfl (by decide) rfl <|
  s_istore_n c158_4 (Nat.le_of_ble_eq_true rfl) True.intro <|
  s_aload_n c158_5 rfl <|
  s_const c158_6 zcI_0 <|
  s_putf (ct := ct) c158_7 rfl (by decide) zint_7_11 xfit_7_11 <|
  s_iload_n c158_10 rfl <|
  s_iret c158_11 (xrtI rfl) hq
-- ('PaintedTownModel', 'moved', '(I)I')
theorem b159_0 {x1 : Int32} {l2 : Value} {l3 : Value} {l4 : Value} {l5 : Value} {D1 : zD} {ct1 : zM} {v1 : Int32} (he : C 148 [.int x1] (mk (zDm D) ct) (some (.int v1)) (mk D1 ct1)) (kk : RUN X C 159 Q 4 [.ref 33, .int x1, l2, l3, l4, l5] [.int v1] (mk D1 ct1)) : RUN X C 159 Q 0 [.ref 33, .int x1, l2, l3, l4, l5] [] (mk (zDm D) ct) :=
  s_iload_n c159_0 rfl <|
  s_calls (args := [.int x1]) (r := []) c159_1 rfl rfl (Nat.le_of_ble_eq_true rfl) he kk
theorem b159_4 {x1 : Int32} {l2 : Value} {l3 : Value} {l4 : Value} {l5 : Value} {xs0 : Int32} (k1 : xs0 = (nI 0) → RUN X C 159 Q 7 [.ref 33, .int x1, l2, l3, l4, l5] [] (mk (zDm D) ct)) (k2 : ¬ xs0 = (nI 0) → RUN X C 159 Q 9 [.ref 33, .int x1, l2, l3, l4, l5] [] (mk (zDm D) ct)) : RUN X C 159 Q 4 [.ref 33, .int x1, l2, l3, l4, l5] [.int xs0] (mk (zDm D) ct) :=
  s_ifne c159_4 k1 k2
theorem b159_7 {x1 : Int32} {l2 : Value} {l3 : Value} {l4 : Value} {l5 : Value} (hq : Q (some (.int (-1))) (mk (zDm D) ct)) : RUN X C 159 Q 7 [.ref 33, .int x1, l2, l3, l4, l5] [] (mk (zDm D) ct) :=
  s_const c159_7 zcI_m1 <|
  s_iret c159_8 (xrtI rfl) hq
theorem b159_9 {x1 : Int32} {l2 : Value} {l3 : Value} {l4 : Value} {l5 : Value} (kk : RUN X C 159 Q 17 [.ref 33, .int x1, .int (nI 0), .int (-4), .int (nI 0), l5] [] (mk (zDm D) ct)) : RUN X C 159 Q 9 [.ref 33, .int x1, l2, l3, l4, l5] [] (mk (zDm D) ct) :=
  s_const c159_9 zcI_0 <|
  s_istore_n c159_10 (Nat.le_of_ble_eq_true rfl) True.intro <|
  s_bipush c159_11 zcB_m4 <|
  s_istore_n c159_13 (Nat.le_of_ble_eq_true rfl) True.intro <|
  s_const c159_14 zcI_0 <|
  s_istore c159_15 (Nat.le_of_ble_eq_true rfl) True.intro <|
  kk
theorem b159_17 {x1 : Int32} {x2 : Int32} {x3 : Int32} {x4 : Int32} {l5 : Value} {D1 : zD} {ct1 : zM} {v1 : Int32} (he : C 122 [.ref 33] (mk (zDm D) ct) (some (.int v1)) (mk D1 ct1)) (kk : RUN X C 159 Q 23 [.ref 33, .int x1, .int x2, .int x3, .int x4, l5] [.int v1, .int x4] (mk D1 ct1)) : RUN X C 159 Q 17 [.ref 33, .int x1, .int x2, .int x3, .int x4, l5] [] (mk (zDm D) ct) :=
  s_iload c159_17 rfl <|
  s_aload_n c159_19 rfl <|
  s_callv (args := []) (r := [.int x4]) c159_20 rfl rfl (Nat.le_of_ble_eq_true rfl) rfl ⟨rfl, by decide⟩ he kk
theorem b159_23 {x1 : Int32} {x2 : Int32} {x3 : Int32} {x4 : Int32} {l5 : Value} {xs0 : Int32} {xs1 : Int32} (k1 : xs1 ≤ xs0 → RUN X C 159 Q 115 [.ref 33, .int x1, .int x2, .int x3, .int x4, l5] [] (mk (zDm D) ct)) (k2 : ¬ xs1 ≤ xs0 → RUN X C 159 Q 26 [.ref 33, .int x1, .int x2, .int x3, .int x4, l5] [] (mk (zDm D) ct)) : RUN X C 159 Q 23 [.ref 33, .int x1, .int x2, .int x3, .int x4, l5] [.int xs1, .int xs0] (mk (zDm D) ct) :=
  s_icge c159_23 k1 k2
theorem b159_26 {x1 : Int32} {x2 : Int32} {x3 : Int32} {x4 : Int32} {l5 : Value} (kk : RUN X C 159 Q 32 [.ref 33, .int x1, .int x2, .int x3, .int x4, .int (x4 + (nI 1))] [] (mk (zDm D) ct)) : RUN X C 159 Q 26 [.ref 33, .int x1, .int x2, .int x3, .int x4, l5] [] (mk (zDm D) ct) :=
  s_iload c159_26 rfl <|
  s_const c159_28 zcI_1 <|
  s_iadd c159_29 <|
  s_istore c159_30 (Nat.le_of_ble_eq_true rfl) True.intro <|
  kk
theorem b159_32 {x1 : Int32} {x2 : Int32} {x3 : Int32} {x4 : Int32} {x5 : Int32} {D1 : zD} {ct1 : zM} {v1 : Int32} (he : C 122 [.ref 33] (mk (zDm D) ct) (some (.int v1)) (mk D1 ct1)) (kk : RUN X C 159 Q 38 [.ref 33, .int x1, .int x2, .int x3, .int x4, .int x5] [.int v1, .int x5] (mk D1 ct1)) : RUN X C 159 Q 32 [.ref 33, .int x1, .int x2, .int x3, .int x4, .int x5] [] (mk (zDm D) ct) :=
  s_iload c159_32 rfl <|
  s_aload_n c159_34 rfl <|
  s_callv (args := []) (r := [.int x5]) c159_35 rfl rfl (Nat.le_of_ble_eq_true rfl) rfl ⟨rfl, by decide⟩ he kk
theorem b159_38 {x1 : Int32} {x2 : Int32} {x3 : Int32} {x4 : Int32} {x5 : Int32} {xs0 : Int32} {xs1 : Int32} (k1 : xs1 ≤ xs0 → RUN X C 159 Q 109 [.ref 33, .int x1, .int x2, .int x3, .int x4, .int x5] [] (mk (zDm D) ct)) (k2 : ¬ xs1 ≤ xs0 → RUN X C 159 Q 41 [.ref 33, .int x1, .int x2, .int x3, .int x4, .int x5] [] (mk (zDm D) ct)) : RUN X C 159 Q 38 [.ref 33, .int x1, .int x2, .int x3, .int x4, .int x5] [.int xs1, .int xs0] (mk (zDm D) ct) :=
  s_icge c159_38 k1 k2
theorem b159_41 {x1 : Int32} {x2 : Int32} {x3 : Int32} {x4 : Int32} {x5 : Int32} {j49 : Nat} (hx49 : zix ((nI 0) + x4) j49 111) {j58 : Nat} (hx58 : zix ((nI 0) + x5) j58 111) (k1 : (ct 36 j49) = (ct 36 j58) → RUN X C 159 Q 103 [.ref 33, .int x1, .int x2, .int x3, .int x4, .int x5] [] (mk (zDm D) ct)) (k2 : ¬ (ct 36 j49) = (ct 36 j58) → RUN X C 159 Q 62 [.ref 33, .int x1, .int x2, .int x3, .int x4, .int x5] [] (mk (zDm D) ct)) : RUN X C 159 Q 41 [.ref 33, .int x1, .int x2, .int x3, .int x4, .int x5] [] (mk (zDm D) ct) :=
  s_aload_n c159_41 rfl <|
  s_getf (ct := ct) c159_42 rfl (by decide) rfl <|
  s_const c159_45 zcI_0 <|
  s_iload c159_46 rfl <|
  s_iadd c159_48 <|
  s_iald (ct := ct) c159_49 rfl hx49 <|
  s_aload_n c159_50 rfl <|
  s_getf (ct := ct) c159_51 rfl (by decide) rfl <|
  s_const c159_54 zcI_0 <|
  s_iload c159_55 rfl <|
  s_iadd c159_57 <|
  s_iald (ct := ct) c159_58 rfl hx58 <|
  s_iceq c159_59 k1 k2
theorem b159_62 {x1 : Int32} {x2 : Int32} {x3 : Int32} {x4 : Int32} {x5 : Int32} {D1 : zD} {ct1 : zM} (he : C 149 [.ref 33] (mk (zDm D) ct) none (mk D1 ct1)) (kk : RUN X C 159 Q 66 [.ref 33, .int x1, .int x2, .int x3, .int x4, .int x5] [] (mk D1 ct1)) : RUN X C 159 Q 62 [.ref 33, .int x1, .int x2, .int x3, .int x4, .int x5] [] (mk (zDm D) ct) :=
  s_aload_n c159_62 rfl <|
  s_callv (args := []) (r := []) c159_63 rfl rfl (Nat.le_of_ble_eq_true rfl) rfl ⟨rfl, by decide⟩ he kk
theorem b159_66 {x1 : Int32} {x2 : Int32} {x3 : Int32} {x4 : Int32} {x5 : Int32} {D1 : zD} {ct1 : zM} (he : C 160 [.ref 33, .int x4, .int x5] (mk (zDm D) ct) none (mk D1 ct1)) (kk : RUN X C 159 Q 74 [.ref 33, .int x1, .int x2, .int x3, .int x4, .int x5] [] (mk D1 ct1)) : RUN X C 159 Q 66 [.ref 33, .int x1, .int x2, .int x3, .int x4, .int x5] [] (mk (zDm D) ct) :=
  s_aload_n c159_66 rfl <|
  s_iload c159_67 rfl <|
  s_iload c159_69 rfl <|
  s_callv (args := [.int x4, .int x5]) (r := []) c159_71 rfl rfl (Nat.le_of_ble_eq_true rfl) rfl ⟨rfl, by decide⟩ he kk
theorem b159_74 {x1 : Int32} {x2 : Int32} {x3 : Int32} {x4 : Int32} {x5 : Int32} {D1 : zD} {ct1 : zM} {v1 : Int32} (he : C 161 [.ref 33] (mk (zDm D) ct) (some (.int v1)) (mk D1 ct1)) (kk : RUN X C 159 Q 78 [.ref 33, .int x1, .int x2, .int x3, .int x4, .int x5] [.int v1] (mk D1 ct1)) : RUN X C 159 Q 74 [.ref 33, .int x1, .int x2, .int x3, .int x4, .int x5] [] (mk (zDm D) ct) :=
  s_aload_n c159_74 rfl <|
  s_callv (args := []) (r := []) c159_75 rfl rfl (Nat.le_of_ble_eq_true rfl) rfl ⟨rfl, by decide⟩ he kk
theorem b159_78 {x1 : Int32} {x2 : Int32} {x3 : Int32} {x4 : Int32} {x5 : Int32} {xs0 : Int32} (k1 : xs0 = (nI 0) → RUN X C 159 Q 103 [.ref 33, .int x1, .int x2, .int x3, .int x4, .int x5] [] (mk (zDm D) ct)) (k2 : ¬ xs0 = (nI 0) → RUN X C 159 Q 81 [.ref 33, .int x1, .int x2, .int x3, .int x4, .int x5] [] (mk (zDm D) ct)) : RUN X C 159 Q 78 [.ref 33, .int x1, .int x2, .int x3, .int x4, .int x5] [.int xs0] (mk (zDm D) ct) :=
  s_ifeq c159_78 k1 k2
theorem b159_81 {x1 : Int32} {x2 : Int32} {x3 : Int32} {x4 : Int32} {x5 : Int32} (k1 : x3 = (-4) → RUN X C 159 Q 90 [.ref 33, .int x1, .int (x2 + nI 1), .int x3, .int x4, .int x5] [] (mk (zDm D) ct)) (k2 : ¬ x3 = (-4) → RUN X C 159 Q 101 [.ref 33, .int x1, .int (x2 + nI 1), .int x3, .int x4, .int x5] [] (mk (zDm D) ct)) : RUN X C 159 Q 81 [.ref 33, .int x1, .int x2, .int x3, .int x4, .int x5] [] (mk (zDm D) ct) :=
  s_iinc c159_81 rfl True.intro zcI_1 <|
  s_iload_n c159_84 rfl <|
  s_bipush c159_85 zcB_m4 <|
  s_icne c159_87 k1 k2
theorem b159_90 {x1 : Int32} {x2 : Int32} {x3 : Int32} {x4 : Int32} {x5 : Int32} (kk : RUN X C 159 Q 32 [.ref 33, .int x1, .int x2, .int (((nI 100) * x4) + x5), .int x4, .int (x5 + nI 1)] [] (mk (zDm D) ct)) : RUN X C 159 Q 90 [.ref 33, .int x1, .int x2, .int x3, .int x4, .int x5] [] (mk (zDm D) ct) :=
  s_bipush c159_90 zcB_100 <|
  s_iload c159_92 rfl <|
  s_imul c159_94 <|
  s_iload c159_95 rfl <|
  s_iadd c159_97 <|
  s_goto c159_98 <|
  s_istore_n c159_102 (Nat.le_of_ble_eq_true rfl) True.intro <|
  s_iinc c159_103 rfl True.intro zcI_1 <|
  s_goto c159_106 <|
  kk
theorem b159_101 {x1 : Int32} {x2 : Int32} {x3 : Int32} {x4 : Int32} {x5 : Int32} (kk : RUN X C 159 Q 32 [.ref 33, .int x1, .int x2, .int x3, .int x4, .int (x5 + nI 1)] [] (mk (zDm D) ct)) : RUN X C 159 Q 101 [.ref 33, .int x1, .int x2, .int x3, .int x4, .int x5] [] (mk (zDm D) ct) :=
  s_iload_n c159_101 rfl <|
  s_istore_n c159_102 (Nat.le_of_ble_eq_true rfl) True.intro <|
  s_iinc c159_103 rfl True.intro zcI_1 <|
  s_goto c159_106 <|
  kk
theorem b159_103 {x1 : Int32} {x2 : Int32} {x3 : Int32} {x4 : Int32} {x5 : Int32} (kk : RUN X C 159 Q 32 [.ref 33, .int x1, .int x2, .int x3, .int x4, .int (x5 + nI 1)] [] (mk (zDm D) ct)) : RUN X C 159 Q 103 [.ref 33, .int x1, .int x2, .int x3, .int x4, .int x5] [] (mk (zDm D) ct) :=
  s_iinc c159_103 rfl True.intro zcI_1 <|
  s_goto c159_106 <|
  kk
theorem b159_109 {x1 : Int32} {x2 : Int32} {x3 : Int32} {x4 : Int32} {x5 : Int32} (kk : RUN X C 159 Q 17 [.ref 33, .int x1, .int x2, .int x3, .int (x4 + nI 1), .int x5] [] (mk (zDm D) ct)) : RUN X C 159 Q 109 [.ref 33, .int x1, .int x2, .int x3, .int x4, .int x5] [] (mk (zDm D) ct) :=
  s_iinc c159_109 rfl True.intro zcI_1 <|
  s_goto c159_112 <|
  kk
theorem b159_115 {x1 : Int32} {x2 : Int32} {x3 : Int32} {x4 : Int32} {l5 : Value} (k1 : x1 = (nI 0) → RUN X C 159 Q 119 [.ref 33, .int x1, .int x2, .int x3, .int x4, l5] [] (mk (zDm D) ct)) (k2 : ¬ x1 = (nI 0) → RUN X C 159 Q 123 [.ref 33, .int x1, .int x2, .int x3, .int x4, l5] [] (mk (zDm D) ct)) : RUN X C 159 Q 115 [.ref 33, .int x1, .int x2, .int x3, .int x4, l5] [] (mk (zDm D) ct) :=
  s_iload_n c159_115 rfl <|
  s_ifne c159_116 k1 k2
theorem b159_119 {x1 : Int32} {x2 : Int32} {x3 : Int32} {x4 : Int32} {l5 : Value} (hq : Q (some (.int x2)) (mk (zDm D) ct)) : RUN X C 159 Q 119 [.ref 33, .int x1, .int x2, .int x3, .int x4, l5] [] (mk (zDm D) ct) :=
  s_iload_n c159_119 rfl <|
  s_goto c159_120 <|
  s_iret c159_124 (xrtI rfl) hq
theorem b159_123 {x1 : Int32} {x2 : Int32} {x3 : Int32} {x4 : Int32} {l5 : Value} (hq : Q (some (.int x3)) (mk (zDm D) ct)) : RUN X C 159 Q 123 [.ref 33, .int x1, .int x2, .int x3, .int x4, l5] [] (mk (zDm D) ct) :=
  s_iload_n c159_123 rfl <|
  s_iret c159_124 (xrtI rfl) hq
-- ('PaintedTownModel', 'exchanges', '(II)V')
theorem b160_0 {x1 : Int32} {x2 : Int32} {j14 : Nat} (hx14 : zix ((nI 0) + x2) j14 111) {j15 : Nat} (hx15 : zix ((nI 0) + x1) j15 111) {j30 : Nat} (hx30 : zix ((nI 0) + x1) j30 111) {j31 : Nat} (hx31 : zix ((nI 0) + x2) j31 111) {j48 : Nat} (hx48 : zix ((nI 36) + x2) j48 111) {j49 : Nat} (hx49 : zix ((nI 36) + x1) j49 111) {j66 : Nat} (hx66 : zix ((nI 36) + x1) j66 111) {j67 : Nat} (hx67 : zix ((nI 36) + x2) j67 111) (hq : Q none (mk (zDm D) (u2 (u2 (u2 (u2 ct 37 j15 (ct 36 j14)) 37 j31 (ct 36 j30)) 37 j49 (ct 36 j48)) 37 j67 (ct 36 j66)))) : RUN X C 160 Q 0 [.ref 33, .int x1, .int x2] [] (mk (zDm D) ct) :=
  s_aload_n c160_0 rfl <|
  s_getf (ct := ct) c160_1 rfl (by decide) rfl <|
  s_const c160_4 zcI_0 <|
  s_iload_n c160_5 rfl <|
  s_iadd c160_6 <|
  s_aload_n c160_7 rfl <|
  s_getf (ct := ct) c160_8 rfl (by decide) rfl <|
  s_const c160_11 zcI_0 <|
  s_iload_n c160_12 rfl <|
  s_iadd c160_13 <|
  s_iald (ct := ct) c160_14 rfl hx14 <|
  s_iast (ct := ct) c160_15 rfl hx15 <|
  s_aload_n c160_16 rfl <|
  s_getf (ct := (u2 ct 37 j15 (ct 36 j14))) c160_17 rfl (by decide) rfl <|
  s_const c160_20 zcI_0 <|
  s_iload_n c160_21 rfl <|
  s_iadd c160_22 <|
  s_aload_n c160_23 rfl <|
  s_getf (ct := (u2 ct 37 j15 (ct 36 j14))) c160_24 rfl (by decide) rfl <|
  s_const c160_27 zcI_0 <|
  s_iload_n c160_28 rfl <|
  s_iadd c160_29 <|
  s_iald (ct := (u2 ct 37 j15 (ct 36 j14))) c160_30 rfl hx30 <|
  s_iast (ct := (u2 ct 37 j15 (ct 36 j14))) c160_31 rfl hx31 <|
  s_aload_n c160_32 rfl <|
  s_getf (ct := (u2 (u2 ct 37 j15 (ct 36 j14)) 37 j31 (ct 36 j30))) c160_33 rfl (by decide) rfl <|
  s_bipush c160_36 zcB_36 <|
  s_iload_n c160_38 rfl <|
  s_iadd c160_39 <|
  s_aload_n c160_40 rfl <|
  s_getf (ct := (u2 (u2 ct 37 j15 (ct 36 j14)) 37 j31 (ct 36 j30))) c160_41 rfl (by decide) rfl <|
  s_bipush c160_44 zcB_36 <|
  s_iload_n c160_46 rfl <|
  s_iadd c160_47 <|
  s_iald (ct := (u2 (u2 ct 37 j15 (ct 36 j14)) 37 j31 (ct 36 j30))) c160_48 rfl hx48 <|
  s_iast (ct := (u2 (u2 ct 37 j15 (ct 36 j14)) 37 j31 (ct 36 j30))) c160_49 rfl hx49 <|
  s_aload_n c160_50 rfl <|
  s_getf (ct := (u2 (u2 (u2 ct 37 j15 (ct 36 j14)) 37 j31 (ct 36 j30)) 37 j49 (ct 36 j48))) c160_51 rfl (by decide) rfl <|
  s_bipush c160_54 zcB_36 <|
  s_iload_n c160_56 rfl <|
  s_iadd c160_57 <|
  s_aload_n c160_58 rfl <|
  s_getf (ct := (u2 (u2 (u2 ct 37 j15 (ct 36 j14)) 37 j31 (ct 36 j30)) 37 j49 (ct 36 j48))) c160_59 rfl (by decide) rfl <|
  s_bipush c160_62 zcB_36 <|
  s_iload_n c160_64 rfl <|
  s_iadd c160_65 <|
  s_iald (ct := (u2 (u2 (u2 ct 37 j15 (ct 36 j14)) 37 j31 (ct 36 j30)) 37 j49 (ct 36 j48))) c160_66 rfl hx66 <|
  s_iast (ct := (u2 (u2 (u2 ct 37 j15 (ct 36 j14)) 37 j31 (ct 36 j30)) 37 j49 (ct 36 j48))) c160_67 rfl hx67 <|
  s_ret c160_68 rfl hq
-- ('PaintedTownModel', 'isSo', '()Z')
theorem b161_0 {l1 : Value} {l2 : Value} (kk : RUN X C 161 Q 4 [.ref 33, .int (nI 1), .int (nI 0)] [] (mk (zDm D) ct)) : RUN X C 161 Q 0 [.ref 33, l1, l2] [] (mk (zDm D) ct) :=
  s_const c161_0 zcI_1 <|
  s_istore_n c161_1 (Nat.le_of_ble_eq_true rfl) True.intro <|
  s_const c161_2 zcI_0 <|
  s_istore_n c161_3 (Nat.le_of_ble_eq_true rfl) True.intro <|
  kk
theorem b161_4 {x1 : Int32} {x2 : Int32} (k1 : (ct 33 11) ≤ x2 → RUN X C 161 Q 64 [.ref 33, .int x1, .int x2] [] (mk (zDm D) ct)) (k2 : ¬ (ct 33 11) ≤ x2 → RUN X C 161 Q 12 [.ref 33, .int x1, .int x2] [] (mk (zDm D) ct)) : RUN X C 161 Q 4 [.ref 33, .int x1, .int x2] [] (mk (zDm D) ct) :=
  s_iload_n c161_4 rfl <|
  s_aload_n c161_5 rfl <|
  s_getf (ct := ct) c161_6 rfl (by decide) rfl <|
  s_icge c161_9 k1 k2
theorem b161_12 {x1 : Int32} {x2 : Int32} (k1 : x1 = (nI 0) → RUN X C 161 Q 64 [.ref 33, .int x1, .int x2] [] (mk (zDm D) ct)) (k2 : ¬ x1 = (nI 0) → RUN X C 161 Q 16 [.ref 33, .int x1, .int x2] [] (mk (zDm D) ct)) : RUN X C 161 Q 12 [.ref 33, .int x1, .int x2] [] (mk (zDm D) ct) :=
  s_iload_n c161_12 rfl <|
  s_ifeq c161_13 k1 k2
theorem b161_16 {x1 : Int32} {x2 : Int32} {D1 : zD} {ct1 : zM} {v1 : Int32} {j29 : Nat} (hx29 : zix ((nI 2) * x2) j29 12) (he : C 133 [.ref 33, .ref 37] (mk (zDm D) (u2 ct 37 108 (ct 41 j29))) (some (.int v1)) (mk D1 ct1)) (kk : RUN X C 161 Q 39 [.ref 33, .int x1, .int x2] [.int v1] (mk D1 ct1)) : RUN X C 161 Q 16 [.ref 33, .int x1, .int x2] [] (mk (zDm D) ct) :=
  s_aload_n c161_16 rfl <|
  s_getf (ct := ct) c161_17 rfl (by decide) rfl <|
  s_bipush c161_20 zcB_108 <|
  s_aload_n c161_22 rfl <|
  s_getf (ct := ct) c161_23 rfl (by decide) rfl <|
  s_const c161_26 zcI_2 <|
  s_iload_n c161_27 rfl <|
  s_imul c161_28 <|
  s_iald (ct := ct) c161_29 rfl hx29 <|
  s_iast (ct := ct) c161_30 rfl (zix_nI (by decide) (by decide)) <|
  s_aload_n c161_31 rfl <|
  s_aload_n c161_32 rfl <|
  s_getf (ct := (u2 ct 37 108 (ct 41 j29))) c161_33 rfl (by decide) rfl <|
  s_callv (args := [.ref 37]) (r := []) c161_36 rfl rfl (Nat.le_of_ble_eq_true rfl) rfl ⟨rfl, by decide⟩ he kk
theorem b161_39 {x1 : Int32} {x2 : Int32} {xs0 : Int32} {j48 : Nat} (hx48 : zix (((nI 2) * x2) + (nI 1)) j48 12) (k1 : xs0 = (ct 41 j48) → RUN X C 161 Q 52 [.ref 33, .int x1, .int x2] [] (mk (zDm D) ct)) (k2 : ¬ xs0 = (ct 41 j48) → RUN X C 161 Q 56 [.ref 33, .int x1, .int x2] [] (mk (zDm D) ct)) : RUN X C 161 Q 39 [.ref 33, .int x1, .int x2] [.int xs0] (mk (zDm D) ct) :=
  s_aload_n c161_39 rfl <|
  s_getf (ct := ct) c161_40 rfl (by decide) rfl <|
  s_const c161_43 zcI_2 <|
  s_iload_n c161_44 rfl <|
  s_imul c161_45 <|
  s_const c161_46 zcI_1 <|
  s_iadd c161_47 <|
  s_iald (ct := ct) c161_48 rfl hx48 <|
  s_icne c161_49 k1 k2
theorem b161_52 {x1 : Int32} {x2 : Int32} (kk : RUN X C 161 Q 4 [.ref 33, .int (nI 1), .int (x2 + nI 1)] [] (mk (zDm D) ct)) : RUN X C 161 Q 52 [.ref 33, .int x1, .int x2] [] (mk (zDm D) ct) :=
  s_const c161_52 zcI_1 <|
  s_goto c161_53 <|
  s_istore_n c161_57 (Nat.le_of_ble_eq_true rfl) True.intro <|
  s_iinc c161_58 rfl True.intro zcI_1 <|
  s_goto c161_61 <|
  kk
theorem b161_56 {x1 : Int32} {x2 : Int32} (kk : RUN X C 161 Q 4 [.ref 33, .int (nI 0), .int (x2 + nI 1)] [] (mk (zDm D) ct)) : RUN X C 161 Q 56 [.ref 33, .int x1, .int x2] [] (mk (zDm D) ct) :=
  s_const c161_56 zcI_0 <|
  s_istore_n c161_57 (Nat.le_of_ble_eq_true rfl) True.intro <|
  s_iinc c161_58 rfl True.intro zcI_1 <|
  s_goto c161_61 <|
  kk
theorem b161_64 {x1 : Int32} {x2 : Int32} (hq : Q (some (.int x1)) (mk (zDm D) ct)) (hz65 : x1 = nI 0 ∨ x1 = nI 1) : RUN X C 161 Q 64 [.ref 33, .int x1, .int x2] [] (mk (zDm D) ct) :=
  s_iload_n c161_64 rfl <|
  s_iret c161_65 (xrtZ rfl hz65) hq
-- ('PaintedTownModel', 'frames', '(I)I')
theorem b162_0 {x1 : Int32} {l2 : Value} {l3 : Value} {l4 : Value} {D1 : zD} {ct1 : zM} {v1 : Int32} (he : C 148 [.int x1] (mk (zDm D) ct) (some (.int v1)) (mk D1 ct1)) (kk : RUN X C 162 Q 4 [.ref 33, .int x1, l2, l3, l4] [.int v1] (mk D1 ct1)) : RUN X C 162 Q 0 [.ref 33, .int x1, l2, l3, l4] [] (mk (zDm D) ct) :=
  s_iload_n c162_0 rfl <|
  s_calls (args := [.int x1]) (r := []) c162_1 rfl rfl (Nat.le_of_ble_eq_true rfl) he kk
theorem b162_4 {x1 : Int32} {l2 : Value} {l3 : Value} {l4 : Value} {xs0 : Int32} (k1 : xs0 = (nI 0) → RUN X C 162 Q 7 [.ref 33, .int x1, l2, l3, l4] [] (mk (zDm D) ct)) (k2 : ¬ xs0 = (nI 0) → RUN X C 162 Q 9 [.ref 33, .int x1, l2, l3, l4] [] (mk (zDm D) ct)) : RUN X C 162 Q 4 [.ref 33, .int x1, l2, l3, l4] [.int xs0] (mk (zDm D) ct) :=
  s_ifne c162_4 k1 k2
theorem b162_7 {x1 : Int32} {l2 : Value} {l3 : Value} {l4 : Value} (hq : Q (some (.int (-1))) (mk (zDm D) ct)) : RUN X C 162 Q 7 [.ref 33, .int x1, l2, l3, l4] [] (mk (zDm D) ct) :=
  s_const c162_7 zcI_m1 <|
  s_iret c162_8 (xrtI rfl) hq
theorem b162_9 {x1 : Int32} {l2 : Value} {l3 : Value} {l4 : Value} (kk : RUN X C 162 Q 17 [.ref 33, .int x1, .int (nI 0), .int (-4), .int (nI 0)] [] (mk (zDm D) ct)) : RUN X C 162 Q 9 [.ref 33, .int x1, l2, l3, l4] [] (mk (zDm D) ct) :=
  s_const c162_9 zcI_0 <|
  s_istore_n c162_10 (Nat.le_of_ble_eq_true rfl) True.intro <|
  s_bipush c162_11 zcB_m4 <|
  s_istore_n c162_13 (Nat.le_of_ble_eq_true rfl) True.intro <|
  s_const c162_14 zcI_0 <|
  s_istore c162_15 (Nat.le_of_ble_eq_true rfl) True.intro <|
  kk
theorem b162_17 {x1 : Int32} {x2 : Int32} {x3 : Int32} {x4 : Int32} {D1 : zD} {ct1 : zM} {v1 : Int32} (he : C 122 [.ref 33] (mk (zDm D) ct) (some (.int v1)) (mk D1 ct1)) (kk : RUN X C 162 Q 23 [.ref 33, .int x1, .int x2, .int x3, .int x4] [.int v1, .int x4] (mk D1 ct1)) : RUN X C 162 Q 17 [.ref 33, .int x1, .int x2, .int x3, .int x4] [] (mk (zDm D) ct) :=
  s_iload c162_17 rfl <|
  s_aload_n c162_19 rfl <|
  s_callv (args := []) (r := [.int x4]) c162_20 rfl rfl (Nat.le_of_ble_eq_true rfl) rfl ⟨rfl, by decide⟩ he kk
theorem b162_23 {x1 : Int32} {x2 : Int32} {x3 : Int32} {x4 : Int32} {xs0 : Int32} {xs1 : Int32} (k1 : xs1 ≤ xs0 → RUN X C 162 Q 68 [.ref 33, .int x1, .int x2, .int x3, .int x4] [] (mk (zDm D) ct)) (k2 : ¬ xs1 ≤ xs0 → RUN X C 162 Q 26 [.ref 33, .int x1, .int x2, .int x3, .int x4] [] (mk (zDm D) ct)) : RUN X C 162 Q 23 [.ref 33, .int x1, .int x2, .int x3, .int x4] [.int xs1, .int xs0] (mk (zDm D) ct) :=
  s_icge c162_23 k1 k2
theorem b162_26 {x1 : Int32} {x2 : Int32} {x3 : Int32} {x4 : Int32} {D1 : zD} {ct1 : zM} (he : C 149 [.ref 33] (mk (zDm D) ct) none (mk D1 ct1)) (kk : RUN X C 162 Q 30 [.ref 33, .int x1, .int x2, .int x3, .int x4] [] (mk D1 ct1)) : RUN X C 162 Q 26 [.ref 33, .int x1, .int x2, .int x3, .int x4] [] (mk (zDm D) ct) :=
  s_aload_n c162_26 rfl <|
  s_callv (args := []) (r := []) c162_27 rfl rfl (Nat.le_of_ble_eq_true rfl) rfl ⟨rfl, by decide⟩ he kk
theorem b162_30 {x1 : Int32} {x2 : Int32} {x3 : Int32} {x4 : Int32} {D1 : zD} {ct1 : zM} {v1 : Int32} (he : C 161 [.ref 33] (mk (zDm D) (u2 ct 37 109 x4)) (some (.int v1)) (mk D1 ct1)) (kk : RUN X C 162 Q 43 [.ref 33, .int x1, .int x2, .int x3, .int x4] [.int v1] (mk D1 ct1)) : RUN X C 162 Q 30 [.ref 33, .int x1, .int x2, .int x3, .int x4] [] (mk (zDm D) ct) :=
  s_aload_n c162_30 rfl <|
  s_getf (ct := ct) c162_31 rfl (by decide) rfl <|
  s_bipush c162_34 zcB_109 <|
  s_iload c162_36 rfl <|
  s_iast (ct := ct) c162_38 rfl (zix_nI (by decide) (by decide)) <|
  s_aload_n c162_39 rfl <|
  s_callv (args := []) (r := []) c162_40 rfl rfl (Nat.le_of_ble_eq_true rfl) rfl ⟨rfl, by decide⟩ he kk
theorem b162_43 {x1 : Int32} {x2 : Int32} {x3 : Int32} {x4 : Int32} {xs0 : Int32} (k1 : xs0 = (nI 0) → RUN X C 162 Q 62 [.ref 33, .int x1, .int x2, .int x3, .int x4] [] (mk (zDm D) ct)) (k2 : ¬ xs0 = (nI 0) → RUN X C 162 Q 46 [.ref 33, .int x1, .int x2, .int x3, .int x4] [] (mk (zDm D) ct)) : RUN X C 162 Q 43 [.ref 33, .int x1, .int x2, .int x3, .int x4] [.int xs0] (mk (zDm D) ct) :=
  s_ifeq c162_43 k1 k2
theorem b162_46 {x1 : Int32} {x2 : Int32} {x3 : Int32} {x4 : Int32} (k1 : x3 = (-4) → RUN X C 162 Q 55 [.ref 33, .int x1, .int (x2 + nI 1), .int x3, .int x4] [] (mk (zDm D) ct)) (k2 : ¬ x3 = (-4) → RUN X C 162 Q 60 [.ref 33, .int x1, .int (x2 + nI 1), .int x3, .int x4] [] (mk (zDm D) ct)) : RUN X C 162 Q 46 [.ref 33, .int x1, .int x2, .int x3, .int x4] [] (mk (zDm D) ct) :=
  s_iinc c162_46 rfl True.intro zcI_1 <|
  s_iload_n c162_49 rfl <|
  s_bipush c162_50 zcB_m4 <|
  s_icne c162_52 k1 k2
theorem b162_55 {x1 : Int32} {x2 : Int32} {x3 : Int32} {x4 : Int32} (kk : RUN X C 162 Q 17 [.ref 33, .int x1, .int x2, .int x4, .int (x4 + nI 1)] [] (mk (zDm D) ct)) : RUN X C 162 Q 55 [.ref 33, .int x1, .int x2, .int x3, .int x4] [] (mk (zDm D) ct) :=
  s_iload c162_55 rfl <|
  s_goto c162_57 <|
  s_istore_n c162_61 (Nat.le_of_ble_eq_true rfl) True.intro <|
  s_iinc c162_62 rfl True.intro zcI_1 <|
  s_goto c162_65 <|
  kk
theorem b162_60 {x1 : Int32} {x2 : Int32} {x3 : Int32} {x4 : Int32} (kk : RUN X C 162 Q 17 [.ref 33, .int x1, .int x2, .int x3, .int (x4 + nI 1)] [] (mk (zDm D) ct)) : RUN X C 162 Q 60 [.ref 33, .int x1, .int x2, .int x3, .int x4] [] (mk (zDm D) ct) :=
  s_iload_n c162_60 rfl <|
  s_istore_n c162_61 (Nat.le_of_ble_eq_true rfl) True.intro <|
  s_iinc c162_62 rfl True.intro zcI_1 <|
  s_goto c162_65 <|
  kk
theorem b162_62 {x1 : Int32} {x2 : Int32} {x3 : Int32} {x4 : Int32} (kk : RUN X C 162 Q 17 [.ref 33, .int x1, .int x2, .int x3, .int (x4 + nI 1)] [] (mk (zDm D) ct)) : RUN X C 162 Q 62 [.ref 33, .int x1, .int x2, .int x3, .int x4] [] (mk (zDm D) ct) :=
  s_iinc c162_62 rfl True.intro zcI_1 <|
  s_goto c162_65 <|
  kk
theorem b162_68 {x1 : Int32} {x2 : Int32} {x3 : Int32} {x4 : Int32} (k1 : x1 = (nI 0) → RUN X C 162 Q 72 [.ref 33, .int x1, .int x2, .int x3, .int x4] [] (mk (zDm D) ct)) (k2 : ¬ x1 = (nI 0) → RUN X C 162 Q 76 [.ref 33, .int x1, .int x2, .int x3, .int x4] [] (mk (zDm D) ct)) : RUN X C 162 Q 68 [.ref 33, .int x1, .int x2, .int x3, .int x4] [] (mk (zDm D) ct) :=
  s_iload_n c162_68 rfl <|
  s_ifne c162_69 k1 k2
theorem b162_72 {x1 : Int32} {x2 : Int32} {x3 : Int32} {x4 : Int32} (hq : Q (some (.int x2)) (mk (zDm D) ct)) : RUN X C 162 Q 72 [.ref 33, .int x1, .int x2, .int x3, .int x4] [] (mk (zDm D) ct) :=
  s_iload_n c162_72 rfl <|
  s_goto c162_73 <|
  s_iret c162_77 (xrtI rfl) hq
theorem b162_76 {x1 : Int32} {x2 : Int32} {x3 : Int32} {x4 : Int32} (hq : Q (some (.int x3)) (mk (zDm D) ct)) : RUN X C 162 Q 76 [.ref 33, .int x1, .int x2, .int x3, .int x4] [] (mk (zDm D) ct) :=
  s_iload_n c162_76 rfl <|
  s_iret c162_77 (xrtI rfl) hq
-- ('PaintedTownModel', 'copy', '(I)I')
theorem b163_0 {x1 : Int32} {l2 : Value} {l3 : Value} {l4 : Value} {D1 : zD} {ct1 : zM} {v1 : Int32} (he : C 124 [.ref 33, .int x1] (mk (zDm D) ct) (some (.int v1)) (mk D1 ct1)) (kk : RUN X C 163 Q 5 [.ref 33, .int x1, l2, l3, l4] [.int v1] (mk D1 ct1)) : RUN X C 163 Q 0 [.ref 33, .int x1, l2, l3, l4] [] (mk (zDm D) ct) :=
  s_aload_n c163_0 rfl <|
  s_iload_n c163_1 rfl <|
  s_callv (args := [.int x1]) (r := []) c163_2 rfl rfl (Nat.le_of_ble_eq_true rfl) rfl ⟨rfl, by decide⟩ he kk
theorem b163_5 {x1 : Int32} {l2 : Value} {l3 : Value} {l4 : Value} {xs0 : Int32} (k1 : xs0 = (nI 0) → RUN X C 163 Q 8 [.ref 33, .int x1, l2, l3, l4] [] (mk (zDm D) ct)) (k2 : ¬ xs0 = (nI 0) → RUN X C 163 Q 10 [.ref 33, .int x1, l2, l3, l4] [] (mk (zDm D) ct)) : RUN X C 163 Q 5 [.ref 33, .int x1, l2, l3, l4] [.int xs0] (mk (zDm D) ct) :=
  s_ifne c163_5 k1 k2
theorem b163_8 {x1 : Int32} {l2 : Value} {l3 : Value} {l4 : Value} (hq : Q (some (.int (-1))) (mk (zDm D) ct)) : RUN X C 163 Q 8 [.ref 33, .int x1, l2, l3, l4] [] (mk (zDm D) ct) :=
  s_const c163_8 zcI_m1 <|
  s_iret c163_9 (xrtI rfl) hq
theorem b163_10 {x1 : Int32} {l2 : Value} {l3 : Value} {l4 : Value} {j18 : Nat} (hx18 : zix ((nI 9) + x1) j18 81) (kk : RUN X C 163 Q 25 [.ref 33, .int x1, .int (ct 34 j18), .int (nI 0), .int (nI 0)] [] (mk (zDm D) ct)) : RUN X C 163 Q 10 [.ref 33, .int x1, l2, l3, l4] [] (mk (zDm D) ct) :=
  s_aload_n c163_10 rfl <|
  s_getf (ct := ct) c163_11 rfl (by decide) rfl <|
  s_bipush c163_14 zcB_9 <|
  s_iload_n c163_16 rfl <|
  s_iadd c163_17 <|
  s_iald (ct := ct) c163_18 rfl hx18 <|
  s_istore_n c163_19 (Nat.le_of_ble_eq_true rfl) True.intro <|
  s_const c163_20 zcI_0 <|
  s_istore_n c163_21 (Nat.le_of_ble_eq_true rfl) True.intro <|
  s_const c163_22 zcI_0 <|
  s_istore c163_23 (Nat.le_of_ble_eq_true rfl) True.intro <|
  kk
theorem b163_25 {x1 : Int32} {x2 : Int32} {x3 : Int32} {x4 : Int32} (k1 : (nI 8) ≤ x4 → RUN X C 163 Q 71 [.ref 33, .int x1, .int x2, .int x3, .int x4] [] (mk (zDm D) ct)) (k2 : ¬ (nI 8) ≤ x4 → RUN X C 163 Q 32 [.ref 33, .int x1, .int x2, .int x3, .int x4] [] (mk (zDm D) ct)) : RUN X C 163 Q 25 [.ref 33, .int x1, .int x2, .int x3, .int x4] [] (mk (zDm D) ct) :=
  s_iload c163_25 rfl <|
  s_bipush c163_27 zcB_8 <|
  s_icge c163_29 k1 k2
theorem b163_32 {x1 : Int32} {x2 : Int32} {x3 : Int32} {x4 : Int32} {D1 : zD} {ct1 : zM} (he : C 149 [.ref 33] (mk (zDm D) ct) none (mk D1 ct1)) (kk : RUN X C 163 Q 36 [.ref 33, .int x1, .int x2, .int x3, .int x4] [] (mk D1 ct1)) : RUN X C 163 Q 32 [.ref 33, .int x1, .int x2, .int x3, .int x4] [] (mk (zDm D) ct) :=
  s_aload_n c163_32 rfl <|
  s_callv (args := []) (r := []) c163_33 rfl rfl (Nat.le_of_ble_eq_true rfl) rfl ⟨rfl, by decide⟩ he kk
theorem b163_36 {x1 : Int32} {x2 : Int32} {x3 : Int32} {x4 : Int32} {D1 : zD} {ct1 : zM} {v1 : Int32} {j46 : Nat} (hx46 : zix ((nI 9) + x1) j46 81) (he : C 161 [.ref 33] (mk (zDm D) (u2 ct 34 j46 x4)) (some (.int v1)) (mk D1 ct1)) (kk : RUN X C 163 Q 52 [.ref 33, .int x1, .int x2, .int x3, .int x4] [.int v1, .int x3] (mk D1 ct1)) : RUN X C 163 Q 36 [.ref 33, .int x1, .int x2, .int x3, .int x4] [] (mk (zDm D) ct) :=
  s_aload_n c163_36 rfl <|
  s_getf (ct := ct) c163_37 rfl (by decide) rfl <|
  s_bipush c163_40 zcB_9 <|
  s_iload_n c163_42 rfl <|
  s_iadd c163_43 <|
  s_iload c163_44 rfl <|
  s_iast (ct := ct) c163_46 rfl hx46 <|
  s_iload_n c163_47 rfl <|
  s_aload_n c163_48 rfl <|
  s_callv (args := []) (r := [.int x3]) c163_49 rfl rfl (Nat.le_of_ble_eq_true rfl) rfl ⟨rfl, by decide⟩ he kk
theorem b163_52 {x1 : Int32} {x2 : Int32} {x3 : Int32} {x4 : Int32} {xs0 : Int32} {xs1 : Int32} (k1 : xs1 = (nI 0) → RUN X C 163 Q 62 [.ref 33, .int x1, .int x2, .int x3, .int x4] [.int xs0] (mk (zDm D) ct)) (k2 : ¬ xs1 = (nI 0) → RUN X C 163 Q 55 [.ref 33, .int x1, .int x2, .int x3, .int x4] [.int xs0] (mk (zDm D) ct)) : RUN X C 163 Q 52 [.ref 33, .int x1, .int x2, .int x3, .int x4] [.int xs1, .int xs0] (mk (zDm D) ct) :=
  s_ifeq c163_52 k1 k2
theorem b163_55 {x1 : Int32} {x2 : Int32} {x3 : Int32} {x4 : Int32} {xs0 : Int32} (kk : RUN X C 163 Q 25 [.ref 33, .int x1, .int x2, .int (xs0 ||| ((nI 1) <<< (x4 &&& 31))), .int (x4 + nI 1)] [] (mk (zDm D) ct)) : RUN X C 163 Q 55 [.ref 33, .int x1, .int x2, .int x3, .int x4] [.int xs0] (mk (zDm D) ct) :=
  s_const c163_55 zcI_1 <|
  s_iload c163_56 rfl <|
  s_ishl c163_58 <|
  s_goto c163_59 <|
  s_ior c163_63 <|
  s_istore_n c163_64 (Nat.le_of_ble_eq_true rfl) True.intro <|
  s_iinc c163_65 rfl True.intro zcI_1 <|
  s_goto c163_68 <|
  kk
theorem b163_62 {x1 : Int32} {x2 : Int32} {x3 : Int32} {x4 : Int32} {xs0 : Int32} (kk : RUN X C 163 Q 25 [.ref 33, .int x1, .int x2, .int (xs0 ||| (nI 0)), .int (x4 + nI 1)] [] (mk (zDm D) ct)) : RUN X C 163 Q 62 [.ref 33, .int x1, .int x2, .int x3, .int x4] [.int xs0] (mk (zDm D) ct) :=
  s_const c163_62 zcI_0 <|
  s_ior c163_63 <|
  s_istore_n c163_64 (Nat.le_of_ble_eq_true rfl) True.intro <|
  s_iinc c163_65 rfl True.intro zcI_1 <|
  s_goto c163_68 <|
  kk
theorem b163_71 {x1 : Int32} {x2 : Int32} {x3 : Int32} {x4 : Int32} {j80 : Nat} (hx80 : zix ((nI 9) + x1) j80 81) (hq : Q (some (.int x3)) (mk (zDm D) (u2 ct 34 j80 x2))) : RUN X C 163 Q 71 [.ref 33, .int x1, .int x2, .int x3, .int x4] [] (mk (zDm D) ct) :=
  s_aload_n c163_71 rfl <|
  s_getf (ct := ct) c163_72 rfl (by decide) rfl <|
  s_bipush c163_75 zcB_9 <|
  s_iload_n c163_77 rfl <|
  s_iadd c163_78 <|
  s_iload_n c163_79 rfl <|
  s_iast (ct := ct) c163_80 rfl hx80 <|
  s_iload_n c163_81 rfl <|
  s_iret c163_82 (xrtI rfl) hq
-- ('PaintedTownModel', 'by', '(I)I')
theorem b164_0 {x1 : Int32} {D1 : zD} {ct1 : zM} {v1 : Int32} (he : C 108 [.long (x1.toInt64), .long (lN 0), .long (lN 3)] (mk (zDm D) ct) (some (.int v1)) (mk D1 ct1)) (kk : RUN X C 164 Q 9 [.ref 33, .int x1] [.int v1] (mk D1 ct1)) : RUN X C 164 Q 0 [.ref 33, .int x1] [] (mk (zDm D) ct) :=
  s_iload_n c164_0 rfl <|
  s_i2l c164_1 <|
  s_lconst c164_2 <|
  s_ldc2 c164_3 <|
  s_calls (args := [.long (x1.toInt64), .long (lN 0), .long (lN 3)]) (r := []) c164_6 rfl rfl (Nat.le_of_ble_eq_true rfl) he kk
theorem b164_9 {x1 : Int32} {xs0 : Int32} (k1 : xs0 = (nI 0) → RUN X C 164 Q 20 [.ref 33, .int x1] [] (mk (zDm D) ct)) (k2 : ¬ xs0 = (nI 0) → RUN X C 164 Q 12 [.ref 33, .int x1] [] (mk (zDm D) ct)) : RUN X C 164 Q 9 [.ref 33, .int x1] [.int xs0] (mk (zDm D) ct) :=
  s_ifeq c164_9 k1 k2
theorem b164_12 {x1 : Int32} {D1 : zD} {ct1 : zM} {v1 : Int32} (he : C 165 [.ref 33, .int x1] (mk (zDm D) ct) (some (.int v1)) (mk D1 ct1)) (kk : RUN X C 164 Q 17 [.ref 33, .int x1] [.int v1] (mk D1 ct1)) : RUN X C 164 Q 12 [.ref 33, .int x1] [] (mk (zDm D) ct) :=
  s_aload_n c164_12 rfl <|
  s_iload_n c164_13 rfl <|
  s_callv (args := [.int x1]) (r := []) c164_14 rfl rfl (Nat.le_of_ble_eq_true rfl) rfl ⟨rfl, by decide⟩ he kk
theorem b164_17 {x1 : Int32} {xs0 : Int32} (hq : Q (some (.int xs0)) (mk (zDm D) ct)) : RUN X C 164 Q 17 [.ref 33, .int x1] [.int xs0] (mk (zDm D) ct) :=
  s_goto c164_17 <|
  s_iret c164_21 (xrtI rfl) hq
theorem b164_20 {x1 : Int32} (hq : Q (some (.int (-1))) (mk (zDm D) ct)) : RUN X C 164 Q 20 [.ref 33, .int x1] [] (mk (zDm D) ct) :=
  s_const c164_20 zcI_m1 <|
  s_iret c164_21 (xrtI rfl) hq
-- ('PaintedTownModel', 'byWind', '(I)I')
theorem b165_0 {x1 : Int32} {D1 : zD} {ct1 : zM} (he : C 149 [.ref 33] (mk (zDm D) ct) none (mk D1 ct1)) (kk : RUN X C 165 Q 4 [.ref 33, .int x1] [] (mk D1 ct1)) : RUN X C 165 Q 0 [.ref 33, .int x1] [] (mk (zDm D) ct) :=
  s_aload_n c165_0 rfl <|
  s_callv (args := []) (r := []) c165_1 rfl rfl (Nat.le_of_ble_eq_true rfl) rfl ⟨rfl, by decide⟩ he kk
theorem b165_4 {x1 : Int32} {D1 : zD} {ct1 : zM} {v1 : Int32} (he : C 133 [.ref 33, .ref 37] (mk (zDm D) (u2 ct 37 108 x1)) (some (.int v1)) (mk D1 ct1)) (kk : RUN X C 165 Q 20 [.ref 33, .int x1] [.int v1] (mk D1 ct1)) : RUN X C 165 Q 4 [.ref 33, .int x1] [] (mk (zDm D) ct) :=
  s_aload_n c165_4 rfl <|
  s_getf (ct := ct) c165_5 rfl (by decide) rfl <|
  s_bipush c165_8 zcB_108 <|
  s_iload_n c165_10 rfl <|
  s_iast (ct := ct) c165_11 rfl (zix_nI (by decide) (by decide)) <|
  s_aload_n c165_12 rfl <|
  s_aload_n c165_13 rfl <|
  s_getf (ct := (u2 ct 37 108 x1)) c165_14 rfl (by decide) rfl <|
  s_callv (args := [.ref 37]) (r := []) c165_17 rfl rfl (Nat.le_of_ble_eq_true rfl) rfl ⟨rfl, by decide⟩ he kk
theorem b165_20 {x1 : Int32} {xs0 : Int32} (hq : Q (some (.int xs0)) (mk (zDm D) ct)) : RUN X C 165 Q 20 [.ref 33, .int x1] [.int xs0] (mk (zDm D) ct) :=
  s_iret c165_20 (xrtI rfl) hq
-- ('PaintedTownModel', 'chance', '(I)I')
theorem b166_0 {x1 : Int32} {l2 : Value} {l3 : Value} {l4 : Value} {l5 : Value} {D1 : zD} {ct1 : zM} {v1 : Int32} (he : C 148 [.int x1] (mk (zDm D) ct) (some (.int v1)) (mk D1 ct1)) (kk : RUN X C 166 Q 4 [.ref 33, .int x1, l2, l3, l4, l5] [.int v1] (mk D1 ct1)) : RUN X C 166 Q 0 [.ref 33, .int x1, l2, l3, l4, l5] [] (mk (zDm D) ct) :=
  s_iload_n c166_0 rfl <|
  s_calls (args := [.int x1]) (r := []) c166_1 rfl rfl (Nat.le_of_ble_eq_true rfl) he kk
theorem b166_4 {x1 : Int32} {l2 : Value} {l3 : Value} {l4 : Value} {l5 : Value} {xs0 : Int32} (k1 : xs0 = (nI 0) → RUN X C 166 Q 7 [.ref 33, .int x1, l2, l3, l4, l5] [] (mk (zDm D) ct)) (k2 : ¬ xs0 = (nI 0) → RUN X C 166 Q 9 [.ref 33, .int x1, l2, l3, l4, l5] [] (mk (zDm D) ct)) : RUN X C 166 Q 4 [.ref 33, .int x1, l2, l3, l4, l5] [.int xs0] (mk (zDm D) ct) :=
  s_ifne c166_4 k1 k2
theorem b166_7 {x1 : Int32} {l2 : Value} {l3 : Value} {l4 : Value} {l5 : Value} (hq : Q (some (.int (-1))) (mk (zDm D) ct)) : RUN X C 166 Q 7 [.ref 33, .int x1, l2, l3, l4, l5] [] (mk (zDm D) ct) :=
  s_const c166_7 zcI_m1 <|
  s_iret c166_8 (xrtI rfl) hq
theorem b166_9 {x1 : Int32} {l2 : Value} {l3 : Value} {l4 : Value} {l5 : Value} (kk : RUN X C 166 Q 13 [.ref 33, .int x1, .int (nI 0), .int (nI 0), l4, l5] [] (mk (zDm D) ct)) : RUN X C 166 Q 9 [.ref 33, .int x1, l2, l3, l4, l5] [] (mk (zDm D) ct) :=
  s_const c166_9 zcI_0 <|
  s_istore_n c166_10 (Nat.le_of_ble_eq_true rfl) True.intro <|
  s_const c166_11 zcI_0 <|
  s_istore_n c166_12 (Nat.le_of_ble_eq_true rfl) True.intro <|
  kk
theorem b166_13 {x1 : Int32} {x2 : Int32} {x3 : Int32} {l4 : Value} {l5 : Value} (k1 : (nI 4) ≤ x3 → RUN X C 166 Q 53 [.ref 33, .int x1, .int x2, .int x3, l4, l5] [] (mk (zDm D) ct)) (k2 : ¬ (nI 4) ≤ x3 → RUN X C 166 Q 18 [.ref 33, .int x1, .int x2, .int x3, l4, l5] [] (mk (zDm D) ct)) : RUN X C 166 Q 13 [.ref 33, .int x1, .int x2, .int x3, l4, l5] [] (mk (zDm D) ct) :=
  s_iload_n c166_13 rfl <|
  s_const c166_14 zcI_4 <|
  s_icge c166_15 k1 k2
theorem b166_18 {x1 : Int32} {x2 : Int32} {x3 : Int32} {l4 : Value} {l5 : Value} {D1 : zD} {ct1 : zM} {v1 : Int32} (he : C 165 [.ref 33, .int x3] (mk (zDm D) ct) (some (.int v1)) (mk D1 ct1)) (kk : RUN X C 166 Q 24 [.ref 33, .int x1, .int x2, .int x3, l4, l5] [.int v1, .int x2] (mk D1 ct1)) : RUN X C 166 Q 18 [.ref 33, .int x1, .int x2, .int x3, l4, l5] [] (mk (zDm D) ct) :=
  s_iload_n c166_18 rfl <|
  s_aload_n c166_19 rfl <|
  s_iload_n c166_20 rfl <|
  s_callv (args := [.int x3]) (r := [.int x2]) c166_21 rfl rfl (Nat.le_of_ble_eq_true rfl) rfl ⟨rfl, by decide⟩ he kk
theorem b166_24 {x1 : Int32} {x2 : Int32} {x3 : Int32} {l4 : Value} {l5 : Value} {xs0 : Int32} {xs1 : Int32} (k1 : (ct 34 2) < xs1 → RUN X C 166 Q 44 [.ref 33, .int x1, .int x2, .int x3, l4, l5] [.int xs0] (mk (zDm D) ct)) (k2 : ¬ (ct 34 2) < xs1 → RUN X C 166 Q 33 [.ref 33, .int x1, .int x2, .int x3, l4, l5] [.int xs0] (mk (zDm D) ct)) : RUN X C 166 Q 24 [.ref 33, .int x1, .int x2, .int x3, l4, l5] [.int xs1, .int xs0] (mk (zDm D) ct) :=
  s_aload_n c166_24 rfl <|
  s_getf (ct := ct) c166_25 rfl (by decide) rfl <|
  s_const c166_28 zcI_2 <|
  s_iald (ct := ct) c166_29 rfl (zix_nI (by decide) (by decide)) <|
  s_icgt c166_30 k1 k2
theorem b166_33 {x1 : Int32} {x2 : Int32} {x3 : Int32} {l4 : Value} {l5 : Value} {xs0 : Int32} {j40 : Nat} (hx40 : zix ((nI 3) + x3) j40 81) (kk : RUN X C 166 Q 13 [.ref 33, .int x1, .int (xs0 + (ct 34 j40)), .int (x3 + nI 1), l4, l5] [] (mk (zDm D) ct)) : RUN X C 166 Q 33 [.ref 33, .int x1, .int x2, .int x3, l4, l5] [.int xs0] (mk (zDm D) ct) :=
  s_aload_n c166_33 rfl <|
  s_getf (ct := ct) c166_34 rfl (by decide) rfl <|
  s_const c166_37 zcI_3 <|
  s_iload_n c166_38 rfl <|
  s_iadd c166_39 <|
  s_iald (ct := ct) c166_40 rfl hx40 <|
  s_goto c166_41 <|
  s_iadd c166_45 <|
  s_istore_n c166_46 (Nat.le_of_ble_eq_true rfl) True.intro <|
  s_iinc c166_47 rfl True.intro zcI_1 <|
  s_goto c166_50 <|
  kk
theorem b166_44 {x1 : Int32} {x2 : Int32} {x3 : Int32} {l4 : Value} {l5 : Value} {xs0 : Int32} (kk : RUN X C 166 Q 13 [.ref 33, .int x1, .int (xs0 + (nI 0)), .int (x3 + nI 1), l4, l5] [] (mk (zDm D) ct)) : RUN X C 166 Q 44 [.ref 33, .int x1, .int x2, .int x3, l4, l5] [.int xs0] (mk (zDm D) ct) :=
  s_const c166_44 zcI_0 <|
  s_iadd c166_45 <|
  s_istore_n c166_46 (Nat.le_of_ble_eq_true rfl) True.intro <|
  s_iinc c166_47 rfl True.intro zcI_1 <|
  s_goto c166_50 <|
  kk
theorem b166_53 {x1 : Int32} {x2 : Int32} {x3 : Int32} {l4 : Value} {l5 : Value} (kk : RUN X C 166 Q 59 [.ref 33, .int x1, .int x2, .int x2, .int (nI 10), l5] [] (mk (zDm D) ct)) : RUN X C 166 Q 53 [.ref 33, .int x1, .int x2, .int x3, l4, l5] [] (mk (zDm D) ct) :=
  s_iload_n c166_53 rfl <|
  s_istore_n c166_54 (Nat.le_of_ble_eq_true rfl) True.intro <|
  s_bipush c166_55 zcB_10 <|
  s_istore c166_57 (Nat.le_of_ble_eq_true rfl) True.intro <|
  kk
theorem b166_59 {x1 : Int32} {x2 : Int32} {x3 : Int32} {x4 : Int32} {l5 : Value} (k1 : x4 = (nI 0) → RUN X C 166 Q 80 [.ref 33, .int x1, .int x2, .int x3, .int x4, l5] [] (mk (zDm D) ct)) (k2 : ¬ x4 = (nI 0) → RUN X C 166 Q 64 [.ref 33, .int x1, .int x2, .int x3, .int x4, l5] [] (mk (zDm D) ct)) : RUN X C 166 Q 59 [.ref 33, .int x1, .int x2, .int x3, .int x4, l5] [] (mk (zDm D) ct) :=
  s_iload c166_59 rfl <|
  s_ifeq c166_61 k1 k2
theorem b166_64 {x1 : Int32} {x2 : Int32} {x3 : Int32} {x4 : Int32} {l5 : Value} (hz67 : ¬ x4 = 0) (kk : RUN X C 166 Q 59 [.ref 33, .int x1, .int x2, .int x4, .int (x3 - x3 / x4 * x4), .int (x3 - x3 / x4 * x4)] [] (mk (zDm D) ct)) : RUN X C 166 Q 64 [.ref 33, .int x1, .int x2, .int x3, .int x4, l5] [] (mk (zDm D) ct) :=
  s_iload_n c166_64 rfl <|
  s_iload c166_65 rfl <|
  s_irem c166_67 hz67 <|
  s_istore c166_68 (Nat.le_of_ble_eq_true rfl) True.intro <|
  s_iload c166_70 rfl <|
  s_istore_n c166_72 (Nat.le_of_ble_eq_true rfl) True.intro <|
  s_iload c166_73 rfl <|
  s_istore c166_75 (Nat.le_of_ble_eq_true rfl) True.intro <|
  s_goto c166_77 <|
  kk
theorem b166_80 {x1 : Int32} {x2 : Int32} {x3 : Int32} {x4 : Int32} {l5 : Value} (k1 : x1 = (nI 0) → RUN X C 166 Q 84 [.ref 33, .int x1, .int x2, .int x3, .int x4, l5] [] (mk (zDm D) ct)) (k2 : ¬ x1 = (nI 0) → RUN X C 166 Q 90 [.ref 33, .int x1, .int x2, .int x3, .int x4, l5] [] (mk (zDm D) ct)) : RUN X C 166 Q 80 [.ref 33, .int x1, .int x2, .int x3, .int x4, l5] [] (mk (zDm D) ct) :=
  s_iload_n c166_80 rfl <|
  s_ifne c166_81 k1 k2
theorem b166_84 {x1 : Int32} {x2 : Int32} {x3 : Int32} {x4 : Int32} {l5 : Value} (hz86 : ¬ x3 = 0) (hq : Q (some (.int (x2 / x3))) (mk (zDm D) ct)) : RUN X C 166 Q 84 [.ref 33, .int x1, .int x2, .int x3, .int x4, l5] [] (mk (zDm D) ct) :=
  s_iload_n c166_84 rfl <|
  s_iload_n c166_85 rfl <|
  s_idiv c166_86 hz86 <|
  s_goto c166_87 <|
  s_iret c166_94 (xrtI rfl) hq
theorem b166_90 {x1 : Int32} {x2 : Int32} {x3 : Int32} {x4 : Int32} {l5 : Value} (hz93 : ¬ x3 = 0) (hq : Q (some (.int ((nI 10) / x3))) (mk (zDm D) ct)) : RUN X C 166 Q 90 [.ref 33, .int x1, .int x2, .int x3, .int x4, l5] [] (mk (zDm D) ct) :=
  s_bipush c166_90 zcB_10 <|
  s_iload_n c166_92 rfl <|
  s_idiv c166_93 hz93 <|
  s_iret c166_94 (xrtI rfl) hq
-- ('PaintedTownModel', 'year', '(III)I')
theorem b167_0 {x1 : Int32} {x2 : Int32} {x3 : Int32} {l4 : Value} {l5 : Value} {l6 : Value} {l7 : Value} {l8 : Value} {l9 : Value} {l10 : Value} {l11 : Value} {l12 : Value} {D1 : zD} {ct1 : zM} {v1 : Int32} (he : C 108 [.long (x1.toInt64), .long (lN 0), .long (lN 9999)] (mk (zDm D) ct) (some (.int v1)) (mk D1 ct1)) (kk : RUN X C 167 Q 9 [.ref 33, .int x1, .int x2, .int x3, l4, l5, l6, l7, l8, l9, l10, l11, l12] [.int v1] (mk D1 ct1)) : RUN X C 167 Q 0 [.ref 33, .int x1, .int x2, .int x3, l4, l5, l6, l7, l8, l9, l10, l11, l12] [] (mk (zDm D) ct) :=
  s_iload_n c167_0 rfl <|
  s_i2l c167_1 <|
  s_lconst c167_2 <|
  s_ldc2 c167_3 <|
  s_calls (args := [.long (x1.toInt64), .long (lN 0), .long (lN 9999)]) (r := []) c167_6 rfl rfl (Nat.le_of_ble_eq_true rfl) he kk
theorem b167_9 {x1 : Int32} {x2 : Int32} {x3 : Int32} {l4 : Value} {l5 : Value} {l6 : Value} {l7 : Value} {l8 : Value} {l9 : Value} {l10 : Value} {l11 : Value} {l12 : Value} {xs0 : Int32} (k1 : xs0 = (nI 0) → RUN X C 167 Q 31 [.ref 33, .int x1, .int x2, .int x3, l4, l5, l6, l7, l8, l9, l10, l11, l12] [] (mk (zDm D) ct)) (k2 : ¬ xs0 = (nI 0) → RUN X C 167 Q 12 [.ref 33, .int x1, .int x2, .int x3, l4, l5, l6, l7, l8, l9, l10, l11, l12] [] (mk (zDm D) ct)) : RUN X C 167 Q 9 [.ref 33, .int x1, .int x2, .int x3, l4, l5, l6, l7, l8, l9, l10, l11, l12] [.int xs0] (mk (zDm D) ct) :=
  s_ifeq c167_9 k1 k2
theorem b167_12 {x1 : Int32} {x2 : Int32} {x3 : Int32} {l4 : Value} {l5 : Value} {l6 : Value} {l7 : Value} {l8 : Value} {l9 : Value} {l10 : Value} {l11 : Value} {l12 : Value} {D1 : zD} {ct1 : zM} {v1 : Int32} (he : C 108 [.long (x2.toInt64), .long (lN 1), .long (lN 40)] (mk (zDm D) ct) (some (.int v1)) (mk D1 ct1)) (kk : RUN X C 167 Q 21 [.ref 33, .int x1, .int x2, .int x3, l4, l5, l6, l7, l8, l9, l10, l11, l12] [.int v1] (mk D1 ct1)) : RUN X C 167 Q 12 [.ref 33, .int x1, .int x2, .int x3, l4, l5, l6, l7, l8, l9, l10, l11, l12] [] (mk (zDm D) ct) :=
  s_iload_n c167_12 rfl <|
  s_i2l c167_13 <|
  s_lconst c167_14 <|
  s_ldc2 c167_15 <|
  s_calls (args := [.long (x2.toInt64), .long (lN 1), .long (lN 40)]) (r := []) c167_18 rfl rfl (Nat.le_of_ble_eq_true rfl) he kk
theorem b167_21 {x1 : Int32} {x2 : Int32} {x3 : Int32} {l4 : Value} {l5 : Value} {l6 : Value} {l7 : Value} {l8 : Value} {l9 : Value} {l10 : Value} {l11 : Value} {l12 : Value} {xs0 : Int32} (k1 : xs0 = (nI 0) → RUN X C 167 Q 31 [.ref 33, .int x1, .int x2, .int x3, l4, l5, l6, l7, l8, l9, l10, l11, l12] [] (mk (zDm D) ct)) (k2 : ¬ xs0 = (nI 0) → RUN X C 167 Q 24 [.ref 33, .int x1, .int x2, .int x3, l4, l5, l6, l7, l8, l9, l10, l11, l12] [] (mk (zDm D) ct)) : RUN X C 167 Q 21 [.ref 33, .int x1, .int x2, .int x3, l4, l5, l6, l7, l8, l9, l10, l11, l12] [.int xs0] (mk (zDm D) ct) :=
  s_ifeq c167_21 k1 k2
theorem b167_24 {x1 : Int32} {x2 : Int32} {x3 : Int32} {l4 : Value} {l5 : Value} {l6 : Value} {l7 : Value} {l8 : Value} {l9 : Value} {l10 : Value} {l11 : Value} {l12 : Value} {D1 : zD} {ct1 : zM} {v1 : Int32} (he : C 148 [.int x3] (mk (zDm D) ct) (some (.int v1)) (mk D1 ct1)) (kk : RUN X C 167 Q 28 [.ref 33, .int x1, .int x2, .int x3, l4, l5, l6, l7, l8, l9, l10, l11, l12] [.int v1] (mk D1 ct1)) : RUN X C 167 Q 24 [.ref 33, .int x1, .int x2, .int x3, l4, l5, l6, l7, l8, l9, l10, l11, l12] [] (mk (zDm D) ct) :=
  s_iload_n c167_24 rfl <|
  s_calls (args := [.int x3]) (r := []) c167_25 rfl rfl (Nat.le_of_ble_eq_true rfl) he kk
theorem b167_28 {x1 : Int32} {x2 : Int32} {x3 : Int32} {l4 : Value} {l5 : Value} {l6 : Value} {l7 : Value} {l8 : Value} {l9 : Value} {l10 : Value} {l11 : Value} {l12 : Value} {xs0 : Int32} (k1 : xs0 = (nI 0) → RUN X C 167 Q 31 [.ref 33, .int x1, .int x2, .int x3, l4, l5, l6, l7, l8, l9, l10, l11, l12] [] (mk (zDm D) ct)) (k2 : ¬ xs0 = (nI 0) → RUN X C 167 Q 33 [.ref 33, .int x1, .int x2, .int x3, l4, l5, l6, l7, l8, l9, l10, l11, l12] [] (mk (zDm D) ct)) : RUN X C 167 Q 28 [.ref 33, .int x1, .int x2, .int x3, l4, l5, l6, l7, l8, l9, l10, l11, l12] [.int xs0] (mk (zDm D) ct) :=
  s_ifne c167_28 k1 k2
theorem b167_31 {x1 : Int32} {x2 : Int32} {x3 : Int32} {l4 : Value} {l5 : Value} {l6 : Value} {l7 : Value} {l8 : Value} {l9 : Value} {l10 : Value} {l11 : Value} {l12 : Value} (hq : Q (some (.int (-1))) (mk (zDm D) ct)) : RUN X C 167 Q 31 [.ref 33, .int x1, .int x2, .int x3, l4, l5, l6, l7, l8, l9, l10, l11, l12] [] (mk (zDm D) ct) :=
  s_const c167_31 zcI_m1 <|
  s_iret c167_32 (xrtI rfl) hq
theorem b167_33 {x1 : Int32} {x2 : Int32} {x3 : Int32} {l4 : Value} {l5 : Value} {l6 : Value} {l7 : Value} {l8 : Value} {l9 : Value} {l10 : Value} {l11 : Value} {l12 : Value} {D1 : zD} {ct1 : zM} (he : C 149 [.ref 33] (mk (zDm D) ct) none (mk D1 ct1)) (kk : RUN X C 167 Q 37 [.ref 33, .int x1, .int x2, .int x3, l4, l5, l6, l7, l8, l9, l10, l11, l12] [] (mk D1 ct1)) : RUN X C 167 Q 33 [.ref 33, .int x1, .int x2, .int x3, l4, l5, l6, l7, l8, l9, l10, l11, l12] [] (mk (zDm D) ct) :=
  s_aload_n c167_33 rfl <|
  s_callv (args := []) (r := []) c167_34 rfl rfl (Nat.le_of_ble_eq_true rfl) rfl ⟨rfl, by decide⟩ he kk
theorem b167_37 {x1 : Int32} {x2 : Int32} {x3 : Int32} {l4 : Value} {l5 : Value} {l6 : Value} {l7 : Value} {l8 : Value} {l9 : Value} {l10 : Value} {l11 : Value} {l12 : Value} (kk : RUN X C 167 Q 46 [.ref 33, .int x1, .int x2, .int x3, .int (nI 0), .int (nI 0), .int (nI 0), l7, l8, l9, l10, l11, l12] [] (mk (zDm D) ct)) : RUN X C 167 Q 37 [.ref 33, .int x1, .int x2, .int x3, l4, l5, l6, l7, l8, l9, l10, l11, l12] [] (mk (zDm D) ct) :=
  s_const c167_37 zcI_0 <|
  s_istore c167_38 (Nat.le_of_ble_eq_true rfl) True.intro <|
  s_const c167_40 zcI_0 <|
  s_istore c167_41 (Nat.le_of_ble_eq_true rfl) True.intro <|
  s_const c167_43 zcI_0 <|
  s_istore c167_44 (Nat.le_of_ble_eq_true rfl) True.intro <|
  kk
theorem b167_46 {x1 : Int32} {x2 : Int32} {x3 : Int32} {x4 : Int32} {x5 : Int32} {x6 : Int32} {l7 : Value} {l8 : Value} {l9 : Value} {l10 : Value} {l11 : Value} {l12 : Value} (k1 : x2 ≤ x6 → RUN X C 167 Q 194 [.ref 33, .int x1, .int x2, .int x3, .int x4, .int x5, .int x6, l7, l8, l9, l10, l11, l12] [] (mk (zDm D) ct)) (k2 : ¬ x2 ≤ x6 → RUN X C 167 Q 52 [.ref 33, .int x1, .int x2, .int x3, .int x4, .int x5, .int x6, l7, l8, l9, l10, l11, l12] [] (mk (zDm D) ct)) : RUN X C 167 Q 46 [.ref 33, .int x1, .int x2, .int x3, .int x4, .int x5, .int x6, l7, l8, l9, l10, l11, l12] [] (mk (zDm D) ct) :=
  s_iload c167_46 rfl <|
  s_iload_n c167_48 rfl <|
  s_icge c167_49 k1 k2
theorem b167_52 {x1 : Int32} {x2 : Int32} {x3 : Int32} {x4 : Int32} {x5 : Int32} {x6 : Int32} {l7 : Value} {l8 : Value} {l9 : Value} {l10 : Value} {l11 : Value} {l12 : Value} {D1 : zD} {ct1 : zM} {v1 : Int32} (he : C 122 [.ref 33] (mk (zDm D) ct) (some (.int v1)) (mk D1 ct1)) (kk : RUN X C 167 Q 90 [.ref 33, .int x1, .int x2, .int x3, .int x4, .int x5, .int x6, .long ((((lN 7919) * (x1.toInt64)) + ((lN 6151) * (x6.toInt64))) + (lN 1)), .double 0, .int ((((((((lN 7919) * (x1.toInt64)) + ((lN 6151) * (x6.toInt64))) + (lN 1)) * ((((lN 7919) * (x1.toInt64)) + ((lN 6151) * (x6.toInt64))) + (lN 1))) - (((((lN 7919) * (x1.toInt64)) + ((lN 6151) * (x6.toInt64))) + (lN 1)) * ((((lN 7919) * (x1.toInt64)) + ((lN 6151) * (x6.toInt64))) + (lN 1))) / (lN 65521) * (lN 65521)).toInt32) / (nI 2)), l10, l11, l12] [.int v1, .int ((((((((lN 7919) * (x1.toInt64)) + ((lN 6151) * (x6.toInt64))) + (lN 1)) * ((((lN 7919) * (x1.toInt64)) + ((lN 6151) * (x6.toInt64))) + (lN 1))) - (((((lN 7919) * (x1.toInt64)) + ((lN 6151) * (x6.toInt64))) + (lN 1)) * ((((lN 7919) * (x1.toInt64)) + ((lN 6151) * (x6.toInt64))) + (lN 1))) / (lN 65521) * (lN 65521)).toInt32) / (nI 2))] (mk D1 ct1)) : RUN X C 167 Q 52 [.ref 33, .int x1, .int x2, .int x3, .int x4, .int x5, .int x6, l7, l8, l9, l10, l11, l12] [] (mk (zDm D) ct) :=
  s_ldc2 c167_52 <|
  s_iload_n c167_55 rfl <|
  s_i2l c167_56 <|
  s_lmul c167_57 <|
  s_ldc2 c167_58 <|
  s_iload c167_61 rfl <|
  s_i2l c167_63 <|
  s_lmul c167_64 <|
  s_ladd c167_65 <|
  s_lconst c167_66 <|
  s_ladd c167_67 <|
  s_lstore c167_68 (Nat.le_of_ble_eq_true rfl) True.intro <|
  s_lload c167_70 rfl <|
  s_lload c167_72 rfl <|
  s_lmul c167_74 <|
  s_ldc2 c167_75 <|
  s_lrem c167_78 (by decide) <|
  s_l2i c167_79 <|
  s_const c167_80 zcI_2 <|
  s_idiv c167_81 (by decide) <|
  s_istore c167_82 (Nat.le_of_ble_eq_true rfl) True.intro <|
  s_iload c167_84 rfl <|
  s_aload_n c167_86 rfl <|
  s_callv (args := []) (r := [.int ((((((((lN 7919) * (x1.toInt64)) + ((lN 6151) * (x6.toInt64))) + (lN 1)) * ((((lN 7919) * (x1.toInt64)) + ((lN 6151) * (x6.toInt64))) + (lN 1))) - (((((lN 7919) * (x1.toInt64)) + ((lN 6151) * (x6.toInt64))) + (lN 1)) * ((((lN 7919) * (x1.toInt64)) + ((lN 6151) * (x6.toInt64))) + (lN 1))) / (lN 65521) * (lN 65521)).toInt32) / (nI 2))]) c167_87 rfl rfl (Nat.le_of_ble_eq_true rfl) rfl ⟨rfl, by decide⟩ he kk
theorem b167_90 {x1 : Int32} {x2 : Int32} {x3 : Int32} {x4 : Int32} {x5 : Int32} {x6 : Int32} {y7 : Int64} {x9 : Int32} {l10 : Value} {l11 : Value} {l12 : Value} {xs0 : Int32} {xs1 : Int32} (hz90 : ¬ xs1 = 0) {j111 : Nat} (hx111 : zix ((nI 0) + (xs0 - xs0 / xs1 * xs1)) j111 111) (k1 : (ct 37 j111) = ((x9 / (nI 8)) - (x9 / (nI 8)) / (nI 8) * (nI 8)) → RUN X C 167 Q 128 [.ref 33, .int x1, .int x2, .int x3, .int x4, .int x5, .int x6, .long y7, .double 0, .int x9, .int (xs0 - xs0 / xs1 * xs1), .int ((x9 / (nI 8)) - (x9 / (nI 8)) / (nI 8) * (nI 8)), l12] [] (mk (zDm D) ct)) (k2 : ¬ (ct 37 j111) = ((x9 / (nI 8)) - (x9 / (nI 8)) / (nI 8) * (nI 8)) → RUN X C 167 Q 117 [.ref 33, .int x1, .int x2, .int x3, .int x4, .int x5, .int x6, .long y7, .double 0, .int x9, .int (xs0 - xs0 / xs1 * xs1), .int ((x9 / (nI 8)) - (x9 / (nI 8)) / (nI 8) * (nI 8)), l12] [] (mk (zDm D) ct)) : RUN X C 167 Q 90 [.ref 33, .int x1, .int x2, .int x3, .int x4, .int x5, .int x6, .long y7, .double 0, .int x9, l10, l11, l12] [.int xs1, .int xs0] (mk (zDm D) ct) :=
  s_irem c167_90 hz90 <|
  s_istore c167_91 (Nat.le_of_ble_eq_true rfl) True.intro <|
  s_iload c167_93 rfl <|
  s_bipush c167_95 zcB_8 <|
  s_idiv c167_97 (by decide) <|
  s_bipush c167_98 zcB_8 <|
  s_irem c167_100 (by decide) <|
  s_istore c167_101 (Nat.le_of_ble_eq_true rfl) True.intro <|
  s_aload_n c167_103 rfl <|
  s_getf (ct := ct) c167_104 rfl (by decide) rfl <|
  s_const c167_107 zcI_0 <|
  s_iload c167_108 rfl <|
  s_iadd c167_110 <|
  s_iald (ct := ct) c167_111 rfl hx111 <|
  s_iload c167_112 rfl <|
  s_iceq c167_114 k1 k2
theorem b167_117 {x1 : Int32} {x2 : Int32} {x3 : Int32} {x4 : Int32} {x5 : Int32} {x6 : Int32} {y7 : Int64} {x9 : Int32} {x10 : Int32} {x11 : Int32} {l12 : Value} {D1 : zD} {ct1 : zM} (he : C 138 [.ref 37, .int x10, .int x11] (mk (zDm D) ct) none (mk D1 ct1)) (kk : RUN X C 167 Q 128 [.ref 33, .int x1, .int x2, .int x3, .int x4, .int x5, .int x6, .long y7, .double 0, .int x9, .int x10, .int x11, l12] [] (mk D1 ct1)) : RUN X C 167 Q 117 [.ref 33, .int x1, .int x2, .int x3, .int x4, .int x5, .int x6, .long y7, .double 0, .int x9, .int x10, .int x11, l12] [] (mk (zDm D) ct) :=
  s_aload_n c167_117 rfl <|
  s_getf (ct := ct) c167_118 rfl (by decide) rfl <|
  s_iload c167_121 rfl <|
  s_iload c167_123 rfl <|
  s_calls (args := [.ref 37, .int x10, .int x11]) (r := []) c167_125 rfl rfl (Nat.le_of_ble_eq_true rfl) he kk
theorem b167_128 {x1 : Int32} {x2 : Int32} {x3 : Int32} {x4 : Int32} {x5 : Int32} {x6 : Int32} {y7 : Int64} {x9 : Int32} {x10 : Int32} {x11 : Int32} {l12 : Value} {D1 : zD} {ct1 : zM} (he : C 145 [.ref 37, .int (nI 1)] (mk (zDm D) ct) none (mk D1 ct1)) (kk : RUN X C 167 Q 136 [.ref 33, .int x1, .int x2, .int x3, .int x4, .int x5, .int x6, .long y7, .double 0, .int x9, .int x10, .int x11, l12] [] (mk D1 ct1)) : RUN X C 167 Q 128 [.ref 33, .int x1, .int x2, .int x3, .int x4, .int x5, .int x6, .long y7, .double 0, .int x9, .int x10, .int x11, l12] [] (mk (zDm D) ct) :=
  s_aload_n c167_128 rfl <|
  s_getf (ct := ct) c167_129 rfl (by decide) rfl <|
  s_const c167_132 zcI_1 <|
  s_calls (args := [.ref 37, .int (nI 1)]) (r := []) c167_133 rfl rfl (Nat.le_of_ble_eq_true rfl) he kk
theorem b167_136 {x1 : Int32} {x2 : Int32} {x3 : Int32} {x4 : Int32} {x5 : Int32} {x6 : Int32} {y7 : Int64} {x9 : Int32} {x10 : Int32} {x11 : Int32} {l12 : Value} {D1 : zD} {ct1 : zM} {v1 : Int32} (he : C 133 [.ref 33, .ref 37] (mk (zDm D) (u2 ct 37 108 ((x9 / (nI 64)) - (x9 / (nI 64)) / (nI 4) * (nI 4)))) (some (.int v1)) (mk D1 ct1)) (kk : RUN X C 167 Q 158 [.ref 33, .int x1, .int x2, .int x3, .int x4, .int x5, .int x6, .long y7, .double 0, .int x9, .int x10, .int x11, l12] [.int v1] (mk D1 ct1)) : RUN X C 167 Q 136 [.ref 33, .int x1, .int x2, .int x3, .int x4, .int x5, .int x6, .long y7, .double 0, .int x9, .int x10, .int x11, l12] [] (mk (zDm D) ct) :=
  s_aload_n c167_136 rfl <|
  s_getf (ct := ct) c167_137 rfl (by decide) rfl <|
  s_bipush c167_140 zcB_108 <|
  s_iload c167_142 rfl <|
  s_bipush c167_144 zcB_64 <|
  s_idiv c167_146 (by decide) <|
  s_const c167_147 zcI_4 <|
  s_irem c167_148 (by decide) <|
  s_iast (ct := ct) c167_149 rfl (zix_nI (by decide) (by decide)) <|
  s_aload_n c167_150 rfl <|
  s_aload_n c167_151 rfl <|
  s_getf (ct := (u2 ct 37 108 ((x9 / (nI 64)) - (x9 / (nI 64)) / (nI 4) * (nI 4)))) c167_152 rfl (by decide) rfl <|
  s_callv (args := [.ref 37]) (r := []) c167_155 rfl rfl (Nat.le_of_ble_eq_true rfl) rfl ⟨rfl, by decide⟩ he kk
theorem b167_158 {x1 : Int32} {x2 : Int32} {x3 : Int32} {x4 : Int32} {x5 : Int32} {x6 : Int32} {y7 : Int64} {x9 : Int32} {x10 : Int32} {x11 : Int32} {l12 : Value} {xs0 : Int32} (k1 : (ct 34 2) < xs0 → RUN X C 167 Q 177 [.ref 33, .int x1, .int x2, .int x3, .int x4, .int x5, .int x6, .long y7, .double 0, .int x9, .int x10, .int x11, .int xs0] [.int x4] (mk (zDm D) ct)) (k2 : ¬ (ct 34 2) < xs0 → RUN X C 167 Q 173 [.ref 33, .int x1, .int x2, .int x3, .int x4, .int x5, .int x6, .long y7, .double 0, .int x9, .int x10, .int x11, .int xs0] [.int x4] (mk (zDm D) ct)) : RUN X C 167 Q 158 [.ref 33, .int x1, .int x2, .int x3, .int x4, .int x5, .int x6, .long y7, .double 0, .int x9, .int x10, .int x11, l12] [.int xs0] (mk (zDm D) ct) :=
  s_istore c167_158 (Nat.le_of_ble_eq_true rfl) True.intro <|
  s_iload c167_160 rfl <|
  s_iload c167_162 rfl <|
  s_aload_n c167_164 rfl <|
  s_getf (ct := ct) c167_165 rfl (by decide) rfl <|
  s_const c167_168 zcI_2 <|
  s_iald (ct := ct) c167_169 rfl (zix_nI (by decide) (by decide)) <|
  s_icgt c167_170 k1 k2
theorem b167_173 {x1 : Int32} {x2 : Int32} {x3 : Int32} {x4 : Int32} {x5 : Int32} {x6 : Int32} {y7 : Int64} {x9 : Int32} {x10 : Int32} {x11 : Int32} {x12 : Int32} {xs0 : Int32} (kk : RUN X C 167 Q 46 [.ref 33, .int x1, .int x2, .int x3, .int (xs0 + (nI 1)), .int (x5 + x12), .int (x6 + nI 1), .long y7, .double 0, .int x9, .int x10, .int x11, .int x12] [] (mk (zDm D) ct)) : RUN X C 167 Q 173 [.ref 33, .int x1, .int x2, .int x3, .int x4, .int x5, .int x6, .long y7, .double 0, .int x9, .int x10, .int x11, .int x12] [.int xs0] (mk (zDm D) ct) :=
  s_const c167_173 zcI_1 <|
  s_goto c167_174 <|
  s_iadd c167_178 <|
  s_istore c167_179 (Nat.le_of_ble_eq_true rfl) True.intro <|
  s_iload c167_181 rfl <|
  s_iload c167_183 rfl <|
  s_iadd c167_185 <|
  s_istore c167_186 (Nat.le_of_ble_eq_true rfl) True.intro <|
  s_iinc c167_188 rfl True.intro zcI_1 <|
  s_goto c167_191 <|
  kk
theorem b167_177 {x1 : Int32} {x2 : Int32} {x3 : Int32} {x4 : Int32} {x5 : Int32} {x6 : Int32} {y7 : Int64} {x9 : Int32} {x10 : Int32} {x11 : Int32} {x12 : Int32} {xs0 : Int32} (kk : RUN X C 167 Q 46 [.ref 33, .int x1, .int x2, .int x3, .int (xs0 + (nI 0)), .int (x5 + x12), .int (x6 + nI 1), .long y7, .double 0, .int x9, .int x10, .int x11, .int x12] [] (mk (zDm D) ct)) : RUN X C 167 Q 177 [.ref 33, .int x1, .int x2, .int x3, .int x4, .int x5, .int x6, .long y7, .double 0, .int x9, .int x10, .int x11, .int x12] [.int xs0] (mk (zDm D) ct) :=
  s_const c167_177 zcI_0 <|
  s_iadd c167_178 <|
  s_istore c167_179 (Nat.le_of_ble_eq_true rfl) True.intro <|
  s_iload c167_181 rfl <|
  s_iload c167_183 rfl <|
  s_iadd c167_185 <|
  s_istore c167_186 (Nat.le_of_ble_eq_true rfl) True.intro <|
  s_iinc c167_188 rfl True.intro zcI_1 <|
  s_goto c167_191 <|
  kk
theorem b167_194 {x1 : Int32} {x2 : Int32} {x3 : Int32} {x4 : Int32} {x5 : Int32} {x6 : Int32} {l7 : Value} {l8 : Value} {l9 : Value} {l10 : Value} {l11 : Value} {l12 : Value} (k1 : x3 = (nI 0) → RUN X C 167 Q 198 [.ref 33, .int x1, .int x2, .int x3, .int x4, .int x5, .int x6, l7, l8, l9, l10, l11, l12] [] (mk (zDm D) ct)) (k2 : ¬ x3 = (nI 0) → RUN X C 167 Q 203 [.ref 33, .int x1, .int x2, .int x3, .int x4, .int x5, .int x6, l7, l8, l9, l10, l11, l12] [] (mk (zDm D) ct)) : RUN X C 167 Q 194 [.ref 33, .int x1, .int x2, .int x3, .int x4, .int x5, .int x6, l7, l8, l9, l10, l11, l12] [] (mk (zDm D) ct) :=
  s_iload_n c167_194 rfl <|
  s_ifne c167_195 k1 k2
theorem b167_198 {x1 : Int32} {x2 : Int32} {x3 : Int32} {x4 : Int32} {x5 : Int32} {x6 : Int32} {l7 : Value} {l8 : Value} {l9 : Value} {l10 : Value} {l11 : Value} {l12 : Value} (hq : Q (some (.int x4)) (mk (zDm D) ct)) : RUN X C 167 Q 198 [.ref 33, .int x1, .int x2, .int x3, .int x4, .int x5, .int x6, l7, l8, l9, l10, l11, l12] [] (mk (zDm D) ct) :=
  s_iload c167_198 rfl <|
  s_goto c167_200 <|
  s_iret c167_205 (xrtI rfl) hq
theorem b167_203 {x1 : Int32} {x2 : Int32} {x3 : Int32} {x4 : Int32} {x5 : Int32} {x6 : Int32} {l7 : Value} {l8 : Value} {l9 : Value} {l10 : Value} {l11 : Value} {l12 : Value} (hq : Q (some (.int x5)) (mk (zDm D) ct)) : RUN X C 167 Q 203 [.ref 33, .int x1, .int x2, .int x3, .int x4, .int x5, .int x6, l7, l8, l9, l10, l11, l12] [] (mk (zDm D) ct) :=
  s_iload c167_203 rfl <|
  s_iret c167_205 (xrtI rfl) hq
-- ('PaintedTownModel', 'keep', '()I')
theorem b168_0 (k1 : (ct 33 7) = (nI 2) → RUN X C 168 Q 8 [.ref 33] [] (mk (zDm D) ct)) (k2 : ¬ (ct 33 7) = (nI 2) → RUN X C 168 Q 11 [.ref 33] [] (mk (zDm D) ct)) : RUN X C 168 Q 0 [.ref 33] [] (mk (zDm D) ct) :=
  s_aload_n c168_0 rfl <|
  s_getf (ct := ct) c168_1 rfl (by decide) rfl <|
  s_const c168_4 zcI_2 <|
  s_icne c168_5 k1 k2
theorem b168_8 (hq : Q (some (.int (-3))) (mk (zDm D) ct)) : RUN X C 168 Q 8 [.ref 33] [] (mk (zDm D) ct) :=
  s_bipush c168_8 zcB_m3 <|
  s_iret c168_10 (xrtI rfl) hq
theorem b168_11 {D1 : zD} {ct1 : zM} (he : C 106 [.ref 36, .int (nI 0), .ref 39, .int ((nI 111) * (ct 33 7)), .int (nI 111)] (mk (zDm D) ct) none (mk D1 ct1)) (kk : RUN X C 168 Q 32 [.ref 33] [] (mk D1 ct1)) : RUN X C 168 Q 11 [.ref 33] [] (mk (zDm D) ct) :=
  s_aload_n c168_11 rfl <|
  s_getf (ct := ct) c168_12 rfl (by decide) rfl <|
  s_const c168_15 zcI_0 <|
  s_aload_n c168_16 rfl <|
  s_getf (ct := ct) c168_17 rfl (by decide) rfl <|
  s_bipush c168_20 zcB_111 <|
  s_aload_n c168_22 rfl <|
  s_getf (ct := ct) c168_23 rfl (by decide) rfl <|
  s_imul c168_26 <|
  s_bipush c168_27 zcB_111 <|
  s_calls (args := [.ref 36, .int (nI 0), .ref 39, .int ((nI 111) * (ct 33 7)), .int (nI 111)]) (r := []) c168_29 rfl rfl (Nat.le_of_ble_eq_true rfl) he kk
theorem b168_32 (hq : Q (some (.int ((ct 33 7) + (nI 1)))) (mk (zDm D) (u2 ct 33 7 ((ct 33 7) + (nI 1))))) : RUN X C 168 Q 32 [.ref 33] [] (mk (zDm D) ct) :=
  s_aload_n c168_32 rfl <|
  s_dup c168_33 rfl <|
  s_getf (ct := ct) c168_34 rfl (by decide) rfl <|
  s_const c168_37 zcI_1 <|
  s_iadd c168_38 <|
  s_putf (ct := ct) c168_39 rfl (by decide) zint_7_7 xfit_7_7 <|
  s_aload_n c168_42 rfl <|
  s_getf (ct := (u2 ct 33 7 ((ct 33 7) + (nI 1)))) c168_43 rfl (by decide) rfl <|
  s_iret c168_46 (xrtI rfl) hq
-- ('PaintedTownModel', 'back', '()I')
theorem b169_0 (k1 : (ct 33 7) = (nI 0) → RUN X C 169 Q 7 [.ref 33] [] (mk (zDm D) ct)) (k2 : ¬ (ct 33 7) = (nI 0) → RUN X C 169 Q 10 [.ref 33] [] (mk (zDm D) ct)) : RUN X C 169 Q 0 [.ref 33] [] (mk (zDm D) ct) :=
  s_aload_n c169_0 rfl <|
  s_getf (ct := ct) c169_1 rfl (by decide) rfl <|
  s_ifne c169_4 k1 k2
theorem b169_7 (hq : Q (some (.int (-2))) (mk (zDm D) ct)) : RUN X C 169 Q 7 [.ref 33] [] (mk (zDm D) ct) :=
  s_bipush c169_7 zcB_m2 <|
  s_iret c169_9 (xrtI rfl) hq
theorem b169_10 {D1 : zD} {ct1 : zM} (he : C 106 [.ref 39, .int ((nI 111) * ((ct 33 7) - (nI 1))), .ref 36, .int (nI 0), .int (nI 111)] (mk (zDm D) (u2 ct 33 7 ((ct 33 7) - (nI 1)))) none (mk D1 ct1)) (kk : RUN X C 169 Q 41 [.ref 33] [] (mk D1 ct1)) : RUN X C 169 Q 10 [.ref 33] [] (mk (zDm D) ct) :=
  s_aload_n c169_10 rfl <|
  s_dup c169_11 rfl <|
  s_getf (ct := ct) c169_12 rfl (by decide) rfl <|
  s_const c169_15 zcI_1 <|
  s_isub c169_16 <|
  s_putf (ct := ct) c169_17 rfl (by decide) zint_7_7 xfit_7_7 <|
  s_aload_n c169_20 rfl <|
  s_getf (ct := (u2 ct 33 7 ((ct 33 7) - (nI 1)))) c169_21 rfl (by decide) rfl <|
  s_bipush c169_24 zcB_111 <|
  s_aload_n c169_26 rfl <|
  s_getf (ct := (u2 ct 33 7 ((ct 33 7) - (nI 1)))) c169_27 rfl (by decide) rfl <|
  s_imul c169_30 <|
  s_aload_n c169_31 rfl <|
  s_getf (ct := (u2 ct 33 7 ((ct 33 7) - (nI 1)))) c169_32 rfl (by decide) rfl <|
  s_const c169_35 zcI_0 <|
  s_bipush c169_36 zcB_111 <|
  s_calls (args := [.ref 39, .int ((nI 111) * ((ct 33 7) - (nI 1))), .ref 36, .int (nI 0), .int (nI 111)]) (r := []) c169_38 rfl rfl (Nat.le_of_ble_eq_true rfl) he kk
theorem b169_41 (hq : Q (some (.int (ct 33 7))) (mk (zDm D) (u2 ct 33 5 (nI 0)))) : RUN X C 169 Q 41 [.ref 33] [] (mk (zDm D) ct) :=
  s_aload_n c169_41 rfl <|
  s_const c169_42 zcI_0 <|
  s_putf (ct := ct) c169_43 rfl (by decide) zint_7_5 xfit_7_5 <|
  s_aload_n c169_46 rfl <|
  s_getf (ct := (u2 ct 33 5 (nI 0))) c169_47 rfl (by decide) rfl <|
  s_iret c169_50 (xrtI rfl) hq
-- ('PaintedTownModel', 'count', '(I)I')
theorem b170_0 {x1 : Int32} {l2 : Value} {l3 : Value} (kk : RUN X C 170 Q 4 [.ref 33, .int x1, .int (nI 0), .int (nI 0)] [] (mk (zDm D) ct)) : RUN X C 170 Q 0 [.ref 33, .int x1, l2, l3] [] (mk (zDm D) ct) :=
  s_const c170_0 zcI_0 <|
  s_istore_n c170_1 (Nat.le_of_ble_eq_true rfl) True.intro <|
  s_const c170_2 zcI_0 <|
  s_istore_n c170_3 (Nat.le_of_ble_eq_true rfl) True.intro <|
  kk
theorem b170_4 {x1 : Int32} {x2 : Int32} {x3 : Int32} (k1 : (nI 36) ≤ x3 → RUN X C 170 Q 28 [.ref 33, .int x1, .int x2, .int x3] [] (mk (zDm D) ct)) (k2 : ¬ (nI 36) ≤ x3 → RUN X C 170 Q 10 [.ref 33, .int x1, .int x2, .int x3] [] (mk (zDm D) ct)) : RUN X C 170 Q 4 [.ref 33, .int x1, .int x2, .int x3] [] (mk (zDm D) ct) :=
  s_iload_n c170_4 rfl <|
  s_bipush c170_5 zcB_36 <|
  s_icge c170_7 k1 k2
theorem b170_10 {x1 : Int32} {x2 : Int32} {x3 : Int32} {j19 : Nat} (hx19 : zix ((nI 72) + x3) j19 111) (kk : RUN X C 170 Q 4 [.ref 33, .int x1, .int (x2 + (ct 36 j19)), .int (x3 + nI 1)] [] (mk (zDm D) ct)) : RUN X C 170 Q 10 [.ref 33, .int x1, .int x2, .int x3] [] (mk (zDm D) ct) :=
  s_iload_n c170_10 rfl <|
  s_aload_n c170_11 rfl <|
  s_getf (ct := ct) c170_12 rfl (by decide) rfl <|
  s_bipush c170_15 zcB_72 <|
  s_iload_n c170_17 rfl <|
  s_iadd c170_18 <|
  s_iald (ct := ct) c170_19 rfl hx19 <|
  s_iadd c170_20 <|
  s_istore_n c170_21 (Nat.le_of_ble_eq_true rfl) True.intro <|
  s_iinc c170_22 rfl True.intro zcI_1 <|
  s_goto c170_25 <|
  kk
theorem b170_28 {x1 : Int32} {x2 : Int32} {x3 : Int32} (kk : xsw [153, 88, 93, 100, 102, 110, 118, 126, 133, 138, 143, 148] (x1.toInt - 0) fun t => RUN X C 170 Q t [.ref 33, .int x1, .int x2, .int x3] [] (mk (zDm D) ct)) : RUN X C 170 Q 28 [.ref 33, .int x1, .int x2, .int x3] [] (mk (zDm D) ct) :=
  s_iload_n c170_28 rfl <|
  s_switch c170_29 kk
theorem b170_88 {x1 : Int32} {x2 : Int32} {x3 : Int32} {D1 : zD} {ct1 : zM} {v1 : Int32} (he : C 122 [.ref 33] (mk (zDm D) ct) (some (.int v1)) (mk D1 ct1)) (kk : RUN X C 170 Q 92 [.ref 33, .int x1, .int x2, .int x3] [.int v1] (mk D1 ct1)) : RUN X C 170 Q 88 [.ref 33, .int x1, .int x2, .int x3] [] (mk (zDm D) ct) :=
  s_aload_n c170_88 rfl <|
  s_callv (args := []) (r := []) c170_89 rfl rfl (Nat.le_of_ble_eq_true rfl) rfl ⟨rfl, by decide⟩ he kk
theorem b170_92 {x1 : Int32} {x2 : Int32} {x3 : Int32} {xs0 : Int32} (hq : Q (some (.int xs0)) (mk (zDm D) ct)) : RUN X C 170 Q 92 [.ref 33, .int x1, .int x2, .int x3] [.int xs0] (mk (zDm D) ct) :=
  s_iret c170_92 (xrtI rfl) hq
theorem b170_93 {x1 : Int32} {x2 : Int32} {x3 : Int32} (hq : Q (some (.int (ct 34 0))) (mk (zDm D) ct)) : RUN X C 170 Q 93 [.ref 33, .int x1, .int x2, .int x3] [] (mk (zDm D) ct) :=
  s_aload_n c170_93 rfl <|
  s_getf (ct := ct) c170_94 rfl (by decide) rfl <|
  s_const c170_97 zcI_0 <|
  s_iald (ct := ct) c170_98 rfl (zix_nI (by decide) (by decide)) <|
  s_iret c170_99 (xrtI rfl) hq
theorem b170_100 {x1 : Int32} {x2 : Int32} {x3 : Int32} (hq : Q (some (.int x2)) (mk (zDm D) ct)) : RUN X C 170 Q 100 [.ref 33, .int x1, .int x2, .int x3] [] (mk (zDm D) ct) :=
  s_iload_n c170_100 rfl <|
  s_iret c170_101 (xrtI rfl) hq
theorem b170_102 {x1 : Int32} {x2 : Int32} {x3 : Int32} (hq : Q (some (.int (ct 36 110))) (mk (zDm D) ct)) : RUN X C 170 Q 102 [.ref 33, .int x1, .int x2, .int x3] [] (mk (zDm D) ct) :=
  s_aload_n c170_102 rfl <|
  s_getf (ct := ct) c170_103 rfl (by decide) rfl <|
  s_bipush c170_106 zcB_110 <|
  s_iald (ct := ct) c170_108 rfl (zix_nI (by decide) (by decide)) <|
  s_iret c170_109 (xrtI rfl) hq
theorem b170_110 {x1 : Int32} {x2 : Int32} {x3 : Int32} (hq : Q (some (.int (ct 36 108))) (mk (zDm D) ct)) : RUN X C 170 Q 110 [.ref 33, .int x1, .int x2, .int x3] [] (mk (zDm D) ct) :=
  s_aload_n c170_110 rfl <|
  s_getf (ct := ct) c170_111 rfl (by decide) rfl <|
  s_bipush c170_114 zcB_108 <|
  s_iald (ct := ct) c170_116 rfl (zix_nI (by decide) (by decide)) <|
  s_iret c170_117 (xrtI rfl) hq
theorem b170_118 {x1 : Int32} {x2 : Int32} {x3 : Int32} (hq : Q (some (.int (ct 36 109))) (mk (zDm D) ct)) : RUN X C 170 Q 118 [.ref 33, .int x1, .int x2, .int x3] [] (mk (zDm D) ct) :=
  s_aload_n c170_118 rfl <|
  s_getf (ct := ct) c170_119 rfl (by decide) rfl <|
  s_bipush c170_122 zcB_109 <|
  s_iald (ct := ct) c170_124 rfl (zix_nI (by decide) (by decide)) <|
  s_iret c170_125 (xrtI rfl) hq
theorem b170_126 {x1 : Int32} {x2 : Int32} {x3 : Int32} (hq : Q (some (.int (ct 34 2))) (mk (zDm D) ct)) : RUN X C 170 Q 126 [.ref 33, .int x1, .int x2, .int x3] [] (mk (zDm D) ct) :=
  s_aload_n c170_126 rfl <|
  s_getf (ct := ct) c170_127 rfl (by decide) rfl <|
  s_const c170_130 zcI_2 <|
  s_iald (ct := ct) c170_131 rfl (zix_nI (by decide) (by decide)) <|
  s_iret c170_132 (xrtI rfl) hq
theorem b170_133 {x1 : Int32} {x2 : Int32} {x3 : Int32} (hq : Q (some (.int (ct 33 11))) (mk (zDm D) ct)) : RUN X C 170 Q 133 [.ref 33, .int x1, .int x2, .int x3] [] (mk (zDm D) ct) :=
  s_aload_n c170_133 rfl <|
  s_getf (ct := ct) c170_134 rfl (by decide) rfl <|
  s_iret c170_137 (xrtI rfl) hq
theorem b170_138 {x1 : Int32} {x2 : Int32} {x3 : Int32} (hq : Q (some (.int (ct 33 5))) (mk (zDm D) ct)) : RUN X C 170 Q 138 [.ref 33, .int x1, .int x2, .int x3] [] (mk (zDm D) ct) :=
  s_aload_n c170_138 rfl <|
  s_getf (ct := ct) c170_139 rfl (by decide) rfl <|
  s_iret c170_142 (xrtI rfl) hq
theorem b170_143 {x1 : Int32} {x2 : Int32} {x3 : Int32} (hq : Q (some (.int (ct 33 7))) (mk (zDm D) ct)) : RUN X C 170 Q 143 [.ref 33, .int x1, .int x2, .int x3] [] (mk (zDm D) ct) :=
  s_aload_n c170_143 rfl <|
  s_getf (ct := ct) c170_144 rfl (by decide) rfl <|
  s_iret c170_147 (xrtI rfl) hq
theorem b170_148 {x1 : Int32} {x2 : Int32} {x3 : Int32} (hq : Q (some (.int (ct 33 9))) (mk (zDm D) ct)) : RUN X C 170 Q 148 [.ref 33, .int x1, .int x2, .int x3] [] (mk (zDm D) ct) :=
  s_aload_n c170_148 rfl <|
  s_getf (ct := ct) c170_149 rfl (by decide) rfl <|
  s_iret c170_152 (xrtI rfl) hq
theorem b170_153 {x1 : Int32} {x2 : Int32} {x3 : Int32} (hq : Q (some (.int (-1))) (mk (zDm D) ct)) : RUN X C 170 Q 153 [.ref 33, .int x1, .int x2, .int x3] [] (mk (zDm D) ct) :=
  s_const c170_153 zcI_m1 <|
  s_iret c170_154 (xrtI rfl) hq
end
