/-! Rows of code, and blocks of them: printed by wip/whole/runblk.py. -/
theorem c56_0 : xCD 56 0 = some (.aload_n 0, []) := rfl
theorem c56_1 : xCD 56 1 = some (.getfield 19, [0, 1, 14]) := rfl
theorem c56_4 : xCD 56 4 = some (.iload_n 1, []) := rfl
theorem c56_5 : xCD 56 5 = some (.invokevirtual 96, [30, 1, 0, 141, 143, 11, 142, 144]) := rfl
theorem c56_8 : xCD 56 8 = some (.ifCond .ne 5, [13]) := rfl
theorem c56_11 : xCD 56 11 = some (.iconst (-1), []) := rfl
theorem c56_12 : xCD 56 12 = some (.ireturn, []) := rfl
theorem c56_13 : xCD 56 13 = some (.aload_n 0, []) := rfl
theorem c56_14 : xCD 56 14 = some (.getfield 19, [0, 1, 14]) := rfl
theorem c56_17 : xCD 56 17 = some (.getfield 100, [2, 3, 214]) := rfl
theorem c56_20 : xCD 56 20 = some (.iload_n 1, []) := rfl
theorem c56_21 : xCD 56 21 = some (.iaload, []) := rfl
theorem c56_22 : xCD 56 22 = some (.istore_n 2, []) := rfl
theorem c56_23 : xCD 56 23 = some (.aload_n 0, []) := rfl
theorem c56_24 : xCD 56 24 = some (.getfield 26, [0, 2, 20]) := rfl
theorem c56_27 : xCD 56 27 = some (.getfield 103, [3, 0, 215]) := rfl
theorem c56_30 : xCD 56 30 = some (.iload_n 1, []) := rfl
theorem c56_31 : xCD 56 31 = some (.iaload, []) := rfl
theorem c56_32 : xCD 56 32 = some (.iload_n 2, []) := rfl
theorem c56_33 : xCD 56 33 = some (.if_icmp .ne 6, [39]) := rfl
theorem c56_36 : xCD 56 36 = some (.bipush (-2), []) := rfl
theorem c56_38 : xCD 56 38 = some (.ireturn, []) := rfl
theorem c56_39 : xCD 56 39 = some (.aload_n 0, []) := rfl
theorem c56_40 : xCD 56 40 = some (.getfield 33, [0, 3, 26]) := rfl
theorem c56_43 : xCD 56 43 = some (.aload_n 0, []) := rfl
theorem c56_44 : xCD 56 44 = some (.getfield 26, [0, 2, 20]) := rfl
theorem c56_47 : xCD 56 47 = some (.invokevirtual 136, [57, 1, 0, 280, 282, 23, 281, 283]) := rfl
theorem c56_50 : xCD 56 50 = some (.aload_n 0, []) := rfl
theorem c56_51 : xCD 56 51 = some (.getfield 26, [0, 2, 20]) := rfl
theorem c56_54 : xCD 56 54 = some (.iload_n 1, []) := rfl
theorem c56_55 : xCD 56 55 = some (.iload_n 2, []) := rfl
theorem c56_56 : xCD 56 56 = some (.iconst 0, []) := rfl
theorem c56_57 : xCD 56 57 = some (.invokevirtual 140, [31, 3, 0, 284, 211, 17, 210, 212]) := rfl
theorem c56_60 : xCD 56 60 = some (.iload_n 2, []) := rfl
theorem c56_61 : xCD 56 61 = some (.invokestatic 144, [46, 1, 0, 285, 243, 61, 242]) := rfl
theorem c56_64 : xCD 56 64 = some (.ireturn, []) := rfl
theorem c58_0 : xCD 58 0 = some (.aload_n 0, []) := rfl
theorem c58_1 : xCD 58 1 = some (.getfield 19, [0, 1, 14]) := rfl
theorem c58_4 : xCD 58 4 = some (.iload_n 1, []) := rfl
theorem c58_5 : xCD 58 5 = some (.invokevirtual 96, [30, 1, 0, 141, 143, 11, 142, 144]) := rfl
theorem c58_8 : xCD 58 8 = some (.ifCond .eq 13, [21]) := rfl
theorem c58_11 : xCD 58 11 = some (.iload_n 2, []) := rfl
theorem c58_12 : xCD 58 12 = some (.ifCond .lt 9, [21]) := rfl
theorem c58_15 : xCD 58 15 = some (.iload_n 2, []) := rfl
theorem c58_16 : xCD 58 16 = some (.bipush 8, []) := rfl
theorem c58_18 : xCD 58 18 = some (.if_icmp .lt 5, [23]) := rfl
theorem c58_21 : xCD 58 21 = some (.iconst (-1), []) := rfl
theorem c58_22 : xCD 58 22 = some (.ireturn, []) := rfl
theorem c58_23 : xCD 58 23 = some (.aload_n 0, []) := rfl
theorem c58_24 : xCD 58 24 = some (.getfield 26, [0, 2, 20]) := rfl
theorem c58_27 : xCD 58 27 = some (.getfield 103, [3, 0, 215]) := rfl
theorem c58_30 : xCD 58 30 = some (.iload_n 1, []) := rfl
theorem c58_31 : xCD 58 31 = some (.iaload, []) := rfl
theorem c58_32 : xCD 58 32 = some (.istore_n 3, []) := rfl
theorem c58_33 : xCD 58 33 = some (.iload_n 3, []) := rfl
theorem c58_34 : xCD 58 34 = some (.iload_n 2, []) := rfl
theorem c58_35 : xCD 58 35 = some (.if_icmp .ne 6, [41]) := rfl
theorem c58_38 : xCD 58 38 = some (.bipush (-2), []) := rfl
theorem c58_40 : xCD 58 40 = some (.ireturn, []) := rfl
theorem c58_41 : xCD 58 41 = some (.aload_n 0, []) := rfl
theorem c58_42 : xCD 58 42 = some (.getfield 33, [0, 3, 26]) := rfl
theorem c58_45 : xCD 58 45 = some (.aload_n 0, []) := rfl
theorem c58_46 : xCD 58 46 = some (.getfield 26, [0, 2, 20]) := rfl
theorem c58_49 : xCD 58 49 = some (.invokevirtual 136, [57, 1, 0, 280, 282, 23, 281, 283]) := rfl
theorem c58_52 : xCD 58 52 = some (.aload_n 0, []) := rfl
theorem c58_53 : xCD 58 53 = some (.getfield 26, [0, 2, 20]) := rfl
theorem c58_56 : xCD 58 56 = some (.iload_n 1, []) := rfl
theorem c58_57 : xCD 58 57 = some (.iload_n 2, []) := rfl
theorem c58_58 : xCD 58 58 = some (.iconst 0, []) := rfl
theorem c58_59 : xCD 58 59 = some (.invokevirtual 140, [31, 3, 0, 284, 211, 17, 210, 212]) := rfl
theorem c58_62 : xCD 58 62 = some (.iload_n 3, []) := rfl
theorem c58_63 : xCD 58 63 = some (.ireturn, []) := rfl
theorem c59_0 : xCD 59 0 = some (.aload_n 0, []) := rfl
theorem c59_1 : xCD 59 1 = some (.getfield 33, [0, 3, 26]) := rfl
theorem c59_4 : xCD 59 4 = some (.aload_n 0, []) := rfl
theorem c59_5 : xCD 59 5 = some (.getfield 26, [0, 2, 20]) := rfl
theorem c59_8 : xCD 59 8 = some (.invokevirtual 136, [57, 1, 0, 280, 282, 23, 281, 283]) := rfl
theorem c59_11 : xCD 59 11 = some (.aload_n 0, []) := rfl
theorem c59_12 : xCD 59 12 = some (.getfield 26, [0, 2, 20]) := rfl
theorem c59_15 : xCD 59 15 = some (.invokevirtual 147, [60, 0, 0, 287, 289, 17, 288, 290]) := rfl
theorem c59_18 : xCD 59 18 = some (.ireturn, []) := rfl
theorem c60_0 : xCD 60 0 = some (.iconst 0, []) := rfl
theorem c60_1 : xCD 60 1 = some (.istore_n 1, []) := rfl
theorem c60_2 : xCD 60 2 = some (.iconst 0, []) := rfl
theorem c60_3 : xCD 60 3 = some (.istore_n 2, []) := rfl
theorem c60_4 : xCD 60 4 = some (.iload_n 2, []) := rfl
theorem c60_5 : xCD 60 5 = some (.bipush 36, []) := rfl
theorem c60_7 : xCD 60 7 = some (.if_icmp .ge 29, [36]) := rfl
theorem c60_10 : xCD 60 10 = some (.aload_n 0, []) := rfl
theorem c60_11 : xCD 60 11 = some (.getfield 15, [3, 1, 82]) := rfl
theorem c60_14 : xCD 60 14 = some (.iload_n 2, []) := rfl
theorem c60_15 : xCD 60 15 = some (.iaload, []) := rfl
theorem c60_16 : xCD 60 16 = some (.iconst 3, []) := rfl
theorem c60_17 : xCD 60 17 = some (.if_icmp .lt 6, [23]) := rfl
theorem c60_20 : xCD 60 20 = some (.iinc 1 1, []) := rfl
theorem c60_23 : xCD 60 23 = some (.aload_n 0, []) := rfl
theorem c60_24 : xCD 60 24 = some (.getfield 15, [3, 1, 82]) := rfl
theorem c60_27 : xCD 60 27 = some (.iload_n 2, []) := rfl
theorem c60_28 : xCD 60 28 = some (.iconst 0, []) := rfl
theorem c60_29 : xCD 60 29 = some (.iastore, []) := rfl
theorem c60_30 : xCD 60 30 = some (.iinc 2 1, []) := rfl
theorem c60_33 : xCD 60 33 = some (.goto (-29), [4]) := rfl
theorem c60_36 : xCD 60 36 = some (.iload_n 1, []) := rfl
theorem c60_37 : xCD 60 37 = some (.ireturn, []) := rfl
theorem c61_0 : xCD 61 0 = some (.aload_n 0, []) := rfl
theorem c61_1 : xCD 61 1 = some (.getfield 19, [0, 1, 14]) := rfl
theorem c61_4 : xCD 61 4 = some (.iload_n 1, []) := rfl
theorem c61_5 : xCD 61 5 = some (.invokevirtual 96, [30, 1, 0, 141, 143, 11, 142, 144]) := rfl
theorem c61_8 : xCD 61 8 = some (.ifCond .ne 5, [13]) := rfl
theorem c61_11 : xCD 61 11 = some (.iconst (-1), []) := rfl
theorem c61_12 : xCD 61 12 = some (.ireturn, []) := rfl
theorem c61_13 : xCD 61 13 = some (.aload_n 0, []) := rfl
theorem c61_14 : xCD 61 14 = some (.getfield 33, [0, 3, 26]) := rfl
theorem c61_17 : xCD 61 17 = some (.aload_n 0, []) := rfl
theorem c61_18 : xCD 61 18 = some (.getfield 26, [0, 2, 20]) := rfl
theorem c61_21 : xCD 61 21 = some (.invokevirtual 136, [57, 1, 0, 280, 282, 23, 281, 283]) := rfl
theorem c61_24 : xCD 61 24 = some (.aload_n 0, []) := rfl
theorem c61_25 : xCD 61 25 = some (.getfield 26, [0, 2, 20]) := rfl
theorem c61_28 : xCD 61 28 = some (.getfield 119, [3, 2, 229]) := rfl
theorem c61_31 : xCD 61 31 = some (.iload_n 1, []) := rfl
theorem c61_32 : xCD 61 32 = some (.aload_n 0, []) := rfl
theorem c61_33 : xCD 61 33 = some (.getfield 26, [0, 2, 20]) := rfl
theorem c61_36 : xCD 61 36 = some (.getfield 119, [3, 2, 229]) := rfl
theorem c61_39 : xCD 61 39 = some (.iload_n 1, []) := rfl
theorem c61_40 : xCD 61 40 = some (.baload, []) := rfl
theorem c61_41 : xCD 61 41 = some (.ifCond .ne 7, [48]) := rfl
theorem c61_44 : xCD 61 44 = some (.iconst 1, []) := rfl
theorem c61_45 : xCD 61 45 = some (.goto 4, [49]) := rfl
theorem c61_48 : xCD 61 48 = some (.iconst 0, []) := rfl
theorem c61_49 : xCD 61 49 = some (.bastore, []) := rfl
theorem c61_50 : xCD 61 50 = some (.aload_n 0, []) := rfl
theorem c61_51 : xCD 61 51 = some (.getfield 26, [0, 2, 20]) := rfl
theorem c61_54 : xCD 61 54 = some (.getfield 119, [3, 2, 229]) := rfl
theorem c61_57 : xCD 61 57 = some (.iload_n 1, []) := rfl
theorem c61_58 : xCD 61 58 = some (.baload, []) := rfl
theorem c61_59 : xCD 61 59 = some (.invokestatic 129, [55, 1, 0, 262, 264, 61, 263]) := rfl
theorem c61_62 : xCD 61 62 = some (.ireturn, []) := rfl
theorem c62_0 : xCD 62 0 = some (.iload_n 1, []) := rfl
theorem c62_1 : xCD 62 1 = some (.ifCond .lt 8, [9]) := rfl
theorem c62_4 : xCD 62 4 = some (.iload_n 1, []) := rfl
theorem c62_5 : xCD 62 5 = some (.iconst 4, []) := rfl
theorem c62_6 : xCD 62 6 = some (.if_icmp .lt 5, [11]) := rfl
theorem c62_9 : xCD 62 9 = some (.iconst (-1), []) := rfl
theorem c62_10 : xCD 62 10 = some (.ireturn, []) := rfl
theorem c62_11 : xCD 62 11 = some (.aload_n 0, []) := rfl
theorem c62_12 : xCD 62 12 = some (.getfield 33, [0, 3, 26]) := rfl
theorem c62_15 : xCD 62 15 = some (.aload_n 0, []) := rfl
theorem c62_16 : xCD 62 16 = some (.getfield 26, [0, 2, 20]) := rfl
theorem c62_19 : xCD 62 19 = some (.invokevirtual 136, [57, 1, 0, 280, 282, 23, 281, 283]) := rfl
theorem c62_22 : xCD 62 22 = some (.aload_n 0, []) := rfl
theorem c62_23 : xCD 62 23 = some (.getfield 26, [0, 2, 20]) := rfl
theorem c62_26 : xCD 62 26 = some (.getfield 150, [3, 3, 291]) := rfl
theorem c62_29 : xCD 62 29 = some (.istore_n 2, []) := rfl
theorem c62_30 : xCD 62 30 = some (.aload_n 0, []) := rfl
theorem c62_31 : xCD 62 31 = some (.getfield 26, [0, 2, 20]) := rfl
theorem c62_34 : xCD 62 34 = some (.iload_n 1, []) := rfl
theorem c62_35 : xCD 62 35 = some (.putfield 150, [3, 3, 291]) := rfl
theorem c62_38 : xCD 62 38 = some (.iload_n 2, []) := rfl
theorem c62_39 : xCD 62 39 = some (.ireturn, []) := rfl
theorem c63_0 : xCD 63 0 = some (.aload_n 0, []) := rfl
theorem c63_1 : xCD 63 1 = some (.getfield 19, [0, 1, 14]) := rfl
theorem c63_4 : xCD 63 4 = some (.iload_n 1, []) := rfl
theorem c63_5 : xCD 63 5 = some (.invokevirtual 96, [30, 1, 0, 141, 143, 11, 142, 144]) := rfl
theorem c63_8 : xCD 63 8 = some (.ifCond .ne 5, [13]) := rfl
theorem c63_11 : xCD 63 11 = some (.iconst (-1), []) := rfl
theorem c63_12 : xCD 63 12 = some (.ireturn, []) := rfl
theorem c63_13 : xCD 63 13 = some (.aload_n 0, []) := rfl
theorem c63_14 : xCD 63 14 = some (.getfield 33, [0, 3, 26]) := rfl
theorem c63_17 : xCD 63 17 = some (.aload_n 0, []) := rfl
theorem c63_18 : xCD 63 18 = some (.getfield 26, [0, 2, 20]) := rfl
theorem c63_21 : xCD 63 21 = some (.invokevirtual 136, [57, 1, 0, 280, 282, 23, 281, 283]) := rfl
theorem c63_24 : xCD 63 24 = some (.aload_n 0, []) := rfl
theorem c63_25 : xCD 63 25 = some (.getfield 26, [0, 2, 20]) := rfl
theorem c63_28 : xCD 63 28 = some (.getfield 153, [3, 4, 140]) := rfl
theorem c63_31 : xCD 63 31 = some (.istore_n 2, []) := rfl
theorem c63_32 : xCD 63 32 = some (.aload_n 0, []) := rfl
theorem c63_33 : xCD 63 33 = some (.getfield 26, [0, 2, 20]) := rfl
theorem c63_36 : xCD 63 36 = some (.iload_n 1, []) := rfl
theorem c63_37 : xCD 63 37 = some (.putfield 153, [3, 4, 140]) := rfl
theorem c63_40 : xCD 63 40 = some (.iload_n 2, []) := rfl
theorem c63_41 : xCD 63 41 = some (.ireturn, []) := rfl
theorem c64_0 : xCD 64 0 = some (.iload_n 1, []) := rfl
theorem c64_1 : xCD 64 1 = some (.iconst 1, []) := rfl
theorem c64_2 : xCD 64 2 = some (.if_icmp .lt 9, [11]) := rfl
theorem c64_5 : xCD 64 5 = some (.iload_n 1, []) := rfl
theorem c64_6 : xCD 64 6 = some (.bipush 20, []) := rfl
theorem c64_8 : xCD 64 8 = some (.if_icmp .le 5, [13]) := rfl
theorem c64_11 : xCD 64 11 = some (.iconst (-1), []) := rfl
theorem c64_12 : xCD 64 12 = some (.ireturn, []) := rfl
theorem c64_13 : xCD 64 13 = some (.aload_n 0, []) := rfl
theorem c64_14 : xCD 64 14 = some (.getfield 33, [0, 3, 26]) := rfl
theorem c64_17 : xCD 64 17 = some (.aload_n 0, []) := rfl
theorem c64_18 : xCD 64 18 = some (.getfield 26, [0, 2, 20]) := rfl
theorem c64_21 : xCD 64 21 = some (.invokevirtual 136, [57, 1, 0, 280, 282, 23, 281, 283]) := rfl
theorem c64_24 : xCD 64 24 = some (.aload_n 0, []) := rfl
theorem c64_25 : xCD 64 25 = some (.getfield 26, [0, 2, 20]) := rfl
theorem c64_28 : xCD 64 28 = some (.iload_n 1, []) := rfl
theorem c64_29 : xCD 64 29 = some (.invokevirtual 156, [65, 1, 0, 292, 294, 17, 293, 295]) := rfl
theorem c64_32 : xCD 64 32 = some (.aload_n 0, []) := rfl
theorem c64_33 : xCD 64 33 = some (.getfield 26, [0, 2, 20]) := rfl
theorem c64_36 : xCD 64 36 = some (.getfield 160, [3, 5, 296]) := rfl
theorem c64_39 : xCD 64 39 = some (.ireturn, []) := rfl
theorem c65_0 : xCD 65 0 = some (.aload_n 0, []) := rfl
theorem c65_1 : xCD 65 1 = some (.dup, []) := rfl
theorem c65_2 : xCD 65 2 = some (.getfield 29, [3, 5, 186]) := rfl
theorem c65_5 : xCD 65 5 = some (.iload_n 1, []) := rfl
theorem c65_6 : xCD 65 6 = some (.iadd, []) := rfl
theorem c65_7 : xCD 65 7 = some (.putfield 29, [3, 5, 186]) := rfl
theorem c65_10 : xCD 65 10 = some (.iconst 0, []) := rfl
theorem c65_11 : xCD 65 11 = some (.istore_n 2, []) := rfl
theorem c65_12 : xCD 65 12 = some (.iload_n 2, []) := rfl
theorem c65_13 : xCD 65 13 = some (.bipush 36, []) := rfl
theorem c65_15 : xCD 65 15 = some (.if_icmp .ge 29, [44]) := rfl
theorem c65_18 : xCD 65 18 = some (.aload_n 0, []) := rfl
theorem c65_19 : xCD 65 19 = some (.getfield 9, [3, 0, 81]) := rfl
theorem c65_22 : xCD 65 22 = some (.iload_n 2, []) := rfl
theorem c65_23 : xCD 65 23 = some (.iaload, []) := rfl
theorem c65_24 : xCD 65 24 = some (.iconst 5, []) := rfl
theorem c65_25 : xCD 65 25 = some (.if_icmp .ne 13, [38]) := rfl
theorem c65_28 : xCD 65 28 = some (.aload_n 0, []) := rfl
theorem c65_29 : xCD 65 29 = some (.getfield 15, [3, 1, 82]) := rfl
theorem c65_32 : xCD 65 32 = some (.iload_n 2, []) := rfl
theorem c65_33 : xCD 65 33 = some (.dup2, []) := rfl
theorem c65_34 : xCD 65 34 = some (.iaload, []) := rfl
theorem c65_35 : xCD 65 35 = some (.iload_n 1, []) := rfl
theorem c65_36 : xCD 65 36 = some (.iadd, []) := rfl
theorem c65_37 : xCD 65 37 = some (.iastore, []) := rfl
theorem c65_38 : xCD 65 38 = some (.iinc 2 1, []) := rfl
theorem c65_41 : xCD 65 41 = some (.goto (-29), [12]) := rfl
theorem c65_44 : xCD 65 44 = some (.return_, []) := rfl
theorem c66_0 : xCD 66 0 = some (.aload_n 0, []) := rfl
theorem c66_1 : xCD 66 1 = some (.getfield 33, [0, 3, 26]) := rfl
theorem c66_4 : xCD 66 4 = some (.aload_n 0, []) := rfl
theorem c66_5 : xCD 66 5 = some (.getfield 26, [0, 2, 20]) := rfl
theorem c66_8 : xCD 66 8 = some (.invokevirtual 163, [67, 1, 0, 297, 299, 23, 298, 300]) := rfl
theorem c66_11 : xCD 66 11 = some (.ifCond .ne 6, [17]) := rfl
theorem c66_14 : xCD 66 14 = some (.bipush (-2), []) := rfl
theorem c66_16 : xCD 66 16 = some (.ireturn, []) := rfl
theorem c66_17 : xCD 66 17 = some (.aload_n 0, []) := rfl
theorem c66_18 : xCD 66 18 = some (.getfield 33, [0, 3, 26]) := rfl
theorem c66_21 : xCD 66 21 = some (.getfield 167, [4, 2, 301]) := rfl
theorem c66_24 : xCD 66 24 = some (.ireturn, []) := rfl
theorem c68_0 : xCD 68 0 = some (.iload_n 1, []) := rfl
theorem c68_1 : xCD 68 1 = some (.ifCond .lt 18, [19]) := rfl
theorem c68_4 : xCD 68 4 = some (.iload_n 1, []) := rfl
theorem c68_5 : xCD 68 5 = some (.bipush 20, []) := rfl
theorem c68_7 : xCD 68 7 = some (.if_icmp .gt 12, [19]) := rfl
theorem c68_10 : xCD 68 10 = some (.iload_n 2, []) := rfl
theorem c68_11 : xCD 68 11 = some (.ifCond .lt 8, [19]) := rfl
theorem c68_14 : xCD 68 14 = some (.iload_n 2, []) := rfl
theorem c68_15 : xCD 68 15 = some (.iconst 1, []) := rfl
theorem c68_16 : xCD 68 16 = some (.if_icmp .le 5, [21]) := rfl
theorem c68_19 : xCD 68 19 = some (.iconst (-1), []) := rfl
theorem c68_20 : xCD 68 20 = some (.ireturn, []) := rfl
theorem c68_21 : xCD 68 21 = some (.aload_n 0, []) := rfl
theorem c68_22 : xCD 68 22 = some (.iload_n 1, []) := rfl
theorem c68_23 : xCD 68 23 = some (.invokevirtual 170, [69, 1, 0, 302, 304, 61, 303, 305]) := rfl
theorem c68_26 : xCD 68 26 = some (.istore_n 3, []) := rfl
theorem c68_27 : xCD 68 27 = some (.iload_n 2, []) := rfl
theorem c68_28 : xCD 68 28 = some (.ifCond .ne 7, [35]) := rfl
theorem c68_31 : xCD 68 31 = some (.iload_n 3, []) := rfl
theorem c68_32 : xCD 68 32 = some (.goto 22, [54]) := rfl
theorem c68_35 : xCD 68 35 = some (.iload_n 3, []) := rfl
theorem c68_36 : xCD 68 36 = some (.aload_n 0, []) := rfl
theorem c68_37 : xCD 68 37 = some (.getfield 19, [0, 1, 14]) := rfl
theorem c68_40 : xCD 68 40 = some (.getfield 126, [2, 2, 261]) := rfl
theorem c68_43 : xCD 68 43 = some (.if_icmp .gt 7, [50]) := rfl
theorem c68_46 : xCD 68 46 = some (.iconst 1, []) := rfl
theorem c68_47 : xCD 68 47 = some (.goto 4, [51]) := rfl
theorem c68_50 : xCD 68 50 = some (.iconst 0, []) := rfl
theorem c68_51 : xCD 68 51 = some (.invokestatic 129, [55, 1, 0, 262, 264, 61, 263]) := rfl
theorem c68_54 : xCD 68 54 = some (.ireturn, []) := rfl
theorem c69_0 : xCD 69 0 = some (.aload_n 0, []) := rfl
theorem c69_1 : xCD 69 1 = some (.invokevirtual 106, [42, 0, 0, 216, 218, 61, 217, 219]) := rfl
theorem c69_4 : xCD 69 4 = some (.aload_n 0, []) := rfl
theorem c69_5 : xCD 69 5 = some (.getfield 40, [0, 5, 28]) := rfl
theorem c69_8 : xCD 69 8 = some (.iload_n 1, []) := rfl
theorem c69_9 : xCD 69 9 = some (.invokevirtual 156, [65, 1, 0, 292, 294, 17, 293, 295]) := rfl
theorem c69_12 : xCD 69 12 = some (.aload_n 0, []) := rfl
theorem c69_13 : xCD 69 13 = some (.getfield 48, [0, 6, 35]) := rfl
theorem c69_16 : xCD 69 16 = some (.invokevirtual 123, [51, 0, 0, 257, 259, 31, 258, 260]) := rfl
theorem c69_19 : xCD 69 19 = some (.ireturn, []) := rfl
theorem c70_0 : xCD 70 0 = some (.iconst 0, []) := rfl
theorem c70_1 : xCD 70 1 = some (.istore_n 1, []) := rfl
theorem c70_2 : xCD 70 2 = some (.iload_n 1, []) := rfl
theorem c70_3 : xCD 70 3 = some (.bipush 20, []) := rfl
theorem c70_5 : xCD 70 5 = some (.if_icmp .gt 26, [31]) := rfl
theorem c70_8 : xCD 70 8 = some (.aload_n 0, []) := rfl
theorem c70_9 : xCD 70 9 = some (.iload_n 1, []) := rfl
theorem c70_10 : xCD 70 10 = some (.invokevirtual 170, [69, 1, 0, 302, 304, 61, 303, 305]) := rfl
theorem c70_13 : xCD 70 13 = some (.aload_n 0, []) := rfl
theorem c70_14 : xCD 70 14 = some (.getfield 19, [0, 1, 14]) := rfl
theorem c70_17 : xCD 70 17 = some (.getfield 126, [2, 2, 261]) := rfl
theorem c70_20 : xCD 70 20 = some (.if_icmp .le 5, [25]) := rfl
theorem c70_23 : xCD 70 23 = some (.iload_n 1, []) := rfl
theorem c70_24 : xCD 70 24 = some (.ireturn, []) := rfl
theorem c70_25 : xCD 70 25 = some (.iinc 1 1, []) := rfl
theorem c70_28 : xCD 70 28 = some (.goto (-26), [2]) := rfl
theorem c70_31 : xCD 70 31 = some (.bipush (-4), []) := rfl
theorem c70_33 : xCD 70 33 = some (.ireturn, []) := rfl
theorem c71_0 : xCD 71 0 = some (.iload_n 1, []) := rfl
theorem c71_1 : xCD 71 1 = some (.ifCond .lt 8, [9]) := rfl
theorem c71_4 : xCD 71 4 = some (.iload_n 1, []) := rfl
theorem c71_5 : xCD 71 5 = some (.iconst 3, []) := rfl
theorem c71_6 : xCD 71 6 = some (.if_icmp .le 5, [11]) := rfl
theorem c71_9 : xCD 71 9 = some (.iconst (-1), []) := rfl
theorem c71_10 : xCD 71 10 = some (.ireturn, []) := rfl
theorem c71_11 : xCD 71 11 = some (.aload_n 0, []) := rfl
theorem c71_12 : xCD 71 12 = some (.invokevirtual 106, [42, 0, 0, 216, 218, 61, 217, 219]) := rfl
theorem c71_15 : xCD 71 15 = some (.aload_n 0, []) := rfl
theorem c71_16 : xCD 71 16 = some (.getfield 57, [0, 7, 42]) := rfl
theorem c71_19 : xCD 71 19 = some (.iconst 0, []) := rfl
theorem c71_20 : xCD 71 20 = some (.invokevirtual 173, [72, 1, 0, 306, 308, 38, 307, 309]) := rfl
theorem c71_23 : xCD 71 23 = some (.aload_n 0, []) := rfl
theorem c71_24 : xCD 71 24 = some (.getfield 57, [0, 7, 42]) := rfl
theorem c71_27 : xCD 71 27 = some (.iconst 0, []) := rfl
theorem c71_28 : xCD 71 28 = some (.iconst 0, []) := rfl
theorem c71_29 : xCD 71 29 = some (.iconst 0, []) := rfl
theorem c71_30 : xCD 71 30 = some (.invokevirtual 177, [73, 3, 1, 8, 311, 38, 310, 312]) := rfl
theorem c71_33 : xCD 71 33 = some (.iload_n 1, []) := rfl
theorem c71_34 : xCD 71 34 = some (.ifCond .ne 13, [47]) := rfl
theorem c71_37 : xCD 71 37 = some (.aload_n 0, []) := rfl
theorem c71_38 : xCD 71 38 = some (.getfield 57, [0, 7, 42]) := rfl
theorem c71_41 : xCD 71 41 = some (.invokevirtual 180, [78, 0, 0, 313, 315, 38, 314, 316]) := rfl
theorem c71_44 : xCD 71 44 = some (.goto 11, [55]) := rfl
theorem c71_47 : xCD 71 47 = some (.aload_n 0, []) := rfl
theorem c71_48 : xCD 71 48 = some (.getfield 57, [0, 7, 42]) := rfl
theorem c71_51 : xCD 71 51 = some (.iload_n 1, []) := rfl
theorem c71_52 : xCD 71 52 = some (.invokevirtual 183, [79, 1, 0, 317, 319, 38, 318, 320]) := rfl
theorem c71_55 : xCD 71 55 = some (.ireturn, []) := rfl
theorem c72_0 : xCD 72 0 = some (.aload_n 0, []) := rfl
theorem c72_1 : xCD 72 1 = some (.iload_n 1, []) := rfl
theorem c72_2 : xCD 72 2 = some (.putfield 18, [6, 5, 100]) := rfl
theorem c72_5 : xCD 72 5 = some (.aload_n 0, []) := rfl
theorem c72_6 : xCD 72 6 = some (.iconst 0, []) := rfl
theorem c72_7 : xCD 72 7 = some (.putfield 22, [6, 6, 101]) := rfl
theorem c72_10 : xCD 72 10 = some (.aload_n 0, []) := rfl
theorem c72_11 : xCD 72 11 = some (.getfield 40, [6, 2, 106]) := rfl
theorem c72_14 : xCD 72 14 = some (.invokevirtual 44, [51, 0, 0, 321, 259, 31, 258, 260]) := rfl
theorem c72_17 : xCD 72 17 = some (.pop, []) := rfl
theorem c72_18 : xCD 72 18 = some (.return_, []) := rfl
theorem c73_0 : xCD 73 0 = some (.aload_n 0, []) := rfl
theorem c73_1 : xCD 73 1 = some (.iload_n 3, []) := rfl
theorem c73_2 : xCD 73 2 = some (.iload_n 2, []) := rfl
theorem c73_3 : xCD 73 3 = some (.invokevirtual 50, [74, 2, 0, 322, 324, 38, 323, 325]) := rfl
theorem c73_6 : xCD 73 6 = some (.ifCond .ne 4, [10]) := rfl
theorem c73_9 : xCD 73 9 = some (.return_, []) := rfl
theorem c73_10 : xCD 73 10 = some (.aload_n 0, []) := rfl
theorem c73_11 : xCD 73 11 = some (.getfield 40, [6, 2, 106]) := rfl
theorem c73_14 : xCD 73 14 = some (.invokevirtual 54, [54, 0, 0, 326, 273, 31, 272, 274]) := rfl
theorem c73_17 : xCD 73 17 = some (.aload_n 0, []) := rfl
theorem c73_18 : xCD 73 18 = some (.getfield 32, [6, 0, 104]) := rfl
theorem c73_21 : xCD 73 21 = some (.getfield 57, [2, 2, 327]) := rfl
theorem c73_24 : xCD 73 24 = some (.if_icmp .gt 10, [34]) := rfl
theorem c73_27 : xCD 73 27 = some (.aload_n 0, []) := rfl
theorem c73_28 : xCD 73 28 = some (.iload_n 2, []) := rfl
theorem c73_29 : xCD 73 29 = some (.iload_n 3, []) := rfl
theorem c73_30 : xCD 73 30 = some (.invokevirtual 62, [75, 2, 0, 328, 330, 38, 329, 331]) := rfl
theorem c73_33 : xCD 73 33 = some (.return_, []) := rfl
theorem c73_34 : xCD 73 34 = some (.aload_n 0, []) := rfl
theorem c73_35 : xCD 73 35 = some (.iload_n 1, []) := rfl
theorem c73_36 : xCD 73 36 = some (.iload_n 2, []) := rfl
theorem c73_37 : xCD 73 37 = some (.iload_n 3, []) := rfl
theorem c73_38 : xCD 73 38 = some (.invokevirtual 66, [76, 3, 0, 332, 334, 38, 333, 335]) := rfl
theorem c73_41 : xCD 73 41 = some (.return_, []) := rfl
theorem c74_0 : xCD 74 0 = some (.aload_n 0, []) := rfl
theorem c74_1 : xCD 74 1 = some (.getfield 22, [6, 6, 101]) := rfl
theorem c74_4 : xCD 74 4 = some (.ifCond .eq 27, [31]) := rfl
theorem c74_7 : xCD 74 7 = some (.iload_n 1, []) := rfl
theorem c74_8 : xCD 74 8 = some (.aload_n 0, []) := rfl
theorem c74_9 : xCD 74 9 = some (.getfield 25, [6, 7, 102]) := rfl
theorem c74_12 : xCD 74 12 = some (.if_icmp .lt 19, [31]) := rfl
theorem c74_15 : xCD 74 15 = some (.iload_n 1, []) := rfl
theorem c74_16 : xCD 74 16 = some (.aload_n 0, []) := rfl
theorem c74_17 : xCD 74 17 = some (.getfield 25, [6, 7, 102]) := rfl
theorem c74_20 : xCD 74 20 = some (.if_icmp .ne 15, [35]) := rfl
theorem c74_23 : xCD 74 23 = some (.iload_n 2, []) := rfl
theorem c74_24 : xCD 74 24 = some (.aload_n 0, []) := rfl
theorem c74_25 : xCD 74 25 = some (.getfield 29, [6, 8, 103]) := rfl
theorem c74_28 : xCD 74 28 = some (.if_icmp .ge 7, [35]) := rfl
theorem c74_31 : xCD 74 31 = some (.iconst 1, []) := rfl
theorem c74_32 : xCD 74 32 = some (.goto 4, [36]) := rfl
theorem c74_35 : xCD 74 35 = some (.iconst 0, []) := rfl
theorem c74_36 : xCD 74 36 = some (.ireturn, []) := rfl
theorem c75_0 : xCD 75 0 = some (.aload_n 0, []) := rfl
theorem c75_1 : xCD 75 1 = some (.iconst 1, []) := rfl
theorem c75_2 : xCD 75 2 = some (.putfield 22, [6, 6, 101]) := rfl
theorem c75_5 : xCD 75 5 = some (.aload_n 0, []) := rfl
theorem c75_6 : xCD 75 6 = some (.iload_n 2, []) := rfl
theorem c75_7 : xCD 75 7 = some (.putfield 25, [6, 7, 102]) := rfl
theorem c75_10 : xCD 75 10 = some (.aload_n 0, []) := rfl
theorem c75_11 : xCD 75 11 = some (.iload_n 1, []) := rfl
theorem c75_12 : xCD 75 12 = some (.putfield 29, [6, 8, 103]) := rfl
theorem c75_15 : xCD 75 15 = some (.iconst 0, []) := rfl
theorem c75_16 : xCD 75 16 = some (.istore_n 3, []) := rfl
theorem c75_17 : xCD 75 17 = some (.iload_n 3, []) := rfl
theorem c75_18 : xCD 75 18 = some (.iload_n 1, []) := rfl
theorem c75_19 : xCD 75 19 = some (.if_icmp .ge 26, [45]) := rfl
theorem c75_22 : xCD 75 22 = some (.iload_n 3, []) := rfl
theorem c75_23 : xCD 75 23 = some (.iconst 3, []) := rfl
theorem c75_24 : xCD 75 24 = some (.if_icmp .ge 21, [45]) := rfl
theorem c75_27 : xCD 75 27 = some (.aload_n 0, []) := rfl
theorem c75_28 : xCD 75 28 = some (.getfield 15, [6, 4, 99]) := rfl
theorem c75_31 : xCD 75 31 = some (.iload_n 3, []) := rfl
theorem c75_32 : xCD 75 32 = some (.aload_n 0, []) := rfl
theorem c75_33 : xCD 75 33 = some (.getfield 9, [6, 3, 98]) := rfl
theorem c75_36 : xCD 75 36 = some (.iload_n 3, []) := rfl
theorem c75_37 : xCD 75 37 = some (.iaload, []) := rfl
theorem c75_38 : xCD 75 38 = some (.iastore, []) := rfl
theorem c75_39 : xCD 75 39 = some (.iinc 3 1, []) := rfl
theorem c75_42 : xCD 75 42 = some (.goto (-25), [17]) := rfl
theorem c75_45 : xCD 75 45 = some (.return_, []) := rfl
theorem c76_0 : xCD 76 0 = some (.iload_n 1, []) := rfl
theorem c76_1 : xCD 76 1 = some (.ifCond .lt 12, [13]) := rfl
theorem c76_4 : xCD 76 4 = some (.iload_n 2, []) := rfl
theorem c76_5 : xCD 76 5 = some (.ifCond .lt 8, [13]) := rfl
theorem c76_8 : xCD 76 8 = some (.iload_n 2, []) := rfl
theorem c76_9 : xCD 76 9 = some (.iconst 3, []) := rfl
theorem c76_10 : xCD 76 10 = some (.if_icmp .lt 4, [14]) := rfl
theorem c76_13 : xCD 76 13 = some (.return_, []) := rfl
theorem c76_14 : xCD 76 14 = some (.aload_n 0, []) := rfl
theorem c76_15 : xCD 76 15 = some (.getfield 32, [6, 0, 104]) := rfl
theorem c76_18 : xCD 76 18 = some (.invokevirtual 70, [36, 0, 0, 336, 159, 11, 158, 160]) := rfl
theorem c76_21 : xCD 76 21 = some (.istore 4, []) := rfl
theorem c76_23 : xCD 76 23 = some (.iload_n 1, []) := rfl
theorem c76_24 : xCD 76 24 = some (.istore 5, []) := rfl
theorem c76_26 : xCD 76 26 = some (.iload 5, []) := rfl
theorem c76_28 : xCD 76 28 = some (.iload 4, []) := rfl
theorem c76_30 : xCD 76 30 = some (.if_icmp .ge 143, [173]) := rfl
theorem c76_33 : xCD 76 33 = some (.iload 5, []) := rfl
theorem c76_35 : xCD 76 35 = some (.bipush 36, []) := rfl
theorem c76_37 : xCD 76 37 = some (.if_icmp .ge 136, [173]) := rfl
theorem c76_40 : xCD 76 40 = some (.aload_n 0, []) := rfl
theorem c76_41 : xCD 76 41 = some (.getfield 32, [6, 0, 104]) := rfl
theorem c76_44 : xCD 76 44 = some (.getfield 73, [2, 3, 337]) := rfl
theorem c76_47 : xCD 76 47 = some (.iload 5, []) := rfl
theorem c76_49 : xCD 76 49 = some (.iaload, []) := rfl
theorem c76_50 : xCD 76 50 = some (.istore 6, []) := rfl
theorem c76_52 : xCD 76 52 = some (.aload_n 0, []) := rfl
theorem c76_53 : xCD 76 53 = some (.getfield 36, [6, 1, 105]) := rfl
theorem c76_56 : xCD 76 56 = some (.getfield 76, [3, 0, 338]) := rfl
theorem c76_59 : xCD 76 59 = some (.iload 5, []) := rfl
theorem c76_61 : xCD 76 61 = some (.iaload, []) := rfl
theorem c76_62 : xCD 76 62 = some (.istore 7, []) := rfl
theorem c76_64 : xCD 76 64 = some (.aload_n 0, []) := rfl
theorem c76_65 : xCD 76 65 = some (.getfield 36, [6, 1, 105]) := rfl
theorem c76_68 : xCD 76 68 = some (.getfield 81, [3, 1, 339]) := rfl
theorem c76_71 : xCD 76 71 = some (.iload 5, []) := rfl
theorem c76_73 : xCD 76 73 = some (.iaload, []) := rfl
theorem c76_74 : xCD 76 74 = some (.istore 8, []) := rfl
theorem c76_76 : xCD 76 76 = some (.aload_n 0, []) := rfl
theorem c76_77 : xCD 76 77 = some (.getfield 18, [6, 5, 100]) := rfl
theorem c76_80 : xCD 76 80 = some (.ifCond .eq 19, [99]) := rfl
theorem c76_83 : xCD 76 83 = some (.aload_n 0, []) := rfl
theorem c76_84 : xCD 76 84 = some (.getfield 36, [6, 1, 105]) := rfl
theorem c76_87 : xCD 76 87 = some (.getfield 84, [3, 2, 340]) := rfl
theorem c76_90 : xCD 76 90 = some (.iload 5, []) := rfl
theorem c76_92 : xCD 76 92 = some (.baload, []) := rfl
theorem c76_93 : xCD 76 93 = some (.ifCond .eq 16, [109]) := rfl
theorem c76_96 : xCD 76 96 = some (.goto 71, [167]) := rfl
theorem c76_99 : xCD 76 99 = some (.iload 7, []) := rfl
theorem c76_101 : xCD 76 101 = some (.iload 6, []) := rfl
theorem c76_103 : xCD 76 103 = some (.if_icmp .ne 6, [109]) := rfl
theorem c76_106 : xCD 76 106 = some (.goto 61, [167]) := rfl
theorem c76_109 : xCD 76 109 = some (.aload_n 0, []) := rfl
theorem c76_110 : xCD 76 110 = some (.getfield 9, [6, 3, 98]) := rfl
theorem c76_113 : xCD 76 113 = some (.iload_n 2, []) := rfl
theorem c76_114 : xCD 76 114 = some (.iload 5, []) := rfl
theorem c76_116 : xCD 76 116 = some (.iastore, []) := rfl
theorem c76_117 : xCD 76 117 = some (.aload_n 0, []) := rfl
theorem c76_118 : xCD 76 118 = some (.iload 5, []) := rfl
theorem c76_120 : xCD 76 120 = some (.iconst 1, []) := rfl
theorem c76_121 : xCD 76 121 = some (.iload 6, []) := rfl
theorem c76_123 : xCD 76 123 = some (.iconst 0, []) := rfl
theorem c76_124 : xCD 76 124 = some (.invokevirtual 88, [77, 4, 0, 341, 343, 38, 342, 344]) := rfl
theorem c76_127 : xCD 76 127 = some (.aload_n 0, []) := rfl
theorem c76_128 : xCD 76 128 = some (.iload 5, []) := rfl
theorem c76_130 : xCD 76 130 = some (.iconst 1, []) := rfl
theorem c76_131 : xCD 76 131 = some (.iadd, []) := rfl
theorem c76_132 : xCD 76 132 = some (.iload_n 2, []) := rfl
theorem c76_133 : xCD 76 133 = some (.iconst 1, []) := rfl
theorem c76_134 : xCD 76 134 = some (.iadd, []) := rfl
theorem c76_135 : xCD 76 135 = some (.aload_n 0, []) := rfl
theorem c76_136 : xCD 76 136 = some (.getfield 18, [6, 5, 100]) := rfl
theorem c76_139 : xCD 76 139 = some (.ifCond .eq 7, [146]) := rfl
theorem c76_142 : xCD 76 142 = some (.iconst 0, []) := rfl
theorem c76_143 : xCD 76 143 = some (.goto 10, [153]) := rfl
theorem c76_146 : xCD 76 146 = some (.iload_n 3, []) := rfl
theorem c76_147 : xCD 76 147 = some (.iload 6, []) := rfl
theorem c76_149 : xCD 76 149 = some (.invokestatic 92, [46, 1, 1, 9, 243, 61, 242]) := rfl
theorem c76_152 : xCD 76 152 = some (.iadd, []) := rfl
theorem c76_153 : xCD 76 153 = some (.invokevirtual 96, [73, 3, 0, 345, 311, 38, 310, 312]) := rfl
theorem c76_156 : xCD 76 156 = some (.aload_n 0, []) := rfl
theorem c76_157 : xCD 76 157 = some (.iload 5, []) := rfl
theorem c76_159 : xCD 76 159 = some (.iconst 0, []) := rfl
theorem c76_160 : xCD 76 160 = some (.iload 7, []) := rfl
theorem c76_162 : xCD 76 162 = some (.iload 8, []) := rfl
theorem c76_164 : xCD 76 164 = some (.invokevirtual 88, [77, 4, 0, 341, 343, 38, 342, 344]) := rfl
theorem c76_167 : xCD 76 167 = some (.iinc 5 1, []) := rfl
theorem c76_170 : xCD 76 170 = some (.goto (-144), [26]) := rfl
theorem c76_173 : xCD 76 173 = some (.return_, []) := rfl
theorem c77_0 : xCD 77 0 = some (.aload_n 0, []) := rfl
theorem c77_1 : xCD 77 1 = some (.getfield 32, [6, 0, 104]) := rfl
theorem c77_4 : xCD 77 4 = some (.iload_n 1, []) := rfl
theorem c77_5 : xCD 77 5 = some (.invokevirtual 99, [30, 1, 0, 346, 143, 11, 142, 144]) := rfl
theorem c77_8 : xCD 77 8 = some (.ifCond .ne 4, [12]) := rfl
theorem c77_11 : xCD 77 11 = some (.return_, []) := rfl
theorem c77_12 : xCD 77 12 = some (.aload_n 0, []) := rfl
theorem c77_13 : xCD 77 13 = some (.getfield 18, [6, 5, 100]) := rfl
theorem c77_16 : xCD 77 16 = some (.ifCond .eq 16, [32]) := rfl
theorem c77_19 : xCD 77 19 = some (.aload_n 0, []) := rfl
theorem c77_20 : xCD 77 20 = some (.getfield 36, [6, 1, 105]) := rfl
theorem c77_23 : xCD 77 23 = some (.getfield 84, [3, 2, 340]) := rfl
theorem c77_26 : xCD 77 26 = some (.iload_n 1, []) := rfl
theorem c77_27 : xCD 77 27 = some (.iload_n 2, []) := rfl
theorem c77_28 : xCD 77 28 = some (.bastore, []) := rfl
theorem c77_29 : xCD 77 29 = some (.goto 14, [43]) := rfl
theorem c77_32 : xCD 77 32 = some (.aload_n 0, []) := rfl
theorem c77_33 : xCD 77 33 = some (.getfield 36, [6, 1, 105]) := rfl
theorem c77_36 : xCD 77 36 = some (.iload_n 1, []) := rfl
theorem c77_37 : xCD 77 37 = some (.iload_n 3, []) := rfl
theorem c77_38 : xCD 77 38 = some (.iload 4, []) := rfl
theorem c77_40 : xCD 77 40 = some (.invokevirtual 103, [31, 3, 0, 347, 211, 17, 210, 212]) := rfl
theorem c77_43 : xCD 77 43 = some (.aload_n 0, []) := rfl
theorem c77_44 : xCD 77 44 = some (.getfield 40, [6, 2, 106]) := rfl
theorem c77_47 : xCD 77 47 = some (.iload_n 1, []) := rfl
theorem c77_48 : xCD 77 48 = some (.invokevirtual 106, [52, 1, 0, 348, 269, 31, 268, 270]) := rfl
theorem c77_51 : xCD 77 51 = some (.aload_n 0, []) := rfl
theorem c77_52 : xCD 77 52 = some (.getfield 40, [6, 2, 106]) := rfl
theorem c77_55 : xCD 77 55 = some (.iload_n 1, []) := rfl
theorem c77_56 : xCD 77 56 = some (.aload_n 0, []) := rfl
theorem c77_57 : xCD 77 57 = some (.getfield 32, [6, 0, 104]) := rfl
theorem c77_60 : xCD 77 60 = some (.getfield 110, [2, 1, 349]) := rfl
theorem c77_63 : xCD 77 63 = some (.isub, []) := rfl
theorem c77_64 : xCD 77 64 = some (.invokevirtual 106, [52, 1, 0, 348, 269, 31, 268, 270]) := rfl
theorem c77_67 : xCD 77 67 = some (.aload_n 0, []) := rfl
theorem c77_68 : xCD 77 68 = some (.getfield 40, [6, 2, 106]) := rfl
theorem c77_71 : xCD 77 71 = some (.iload_n 1, []) := rfl
theorem c77_72 : xCD 77 72 = some (.iconst 1, []) := rfl
theorem c77_73 : xCD 77 73 = some (.isub, []) := rfl
theorem c77_74 : xCD 77 74 = some (.invokevirtual 106, [52, 1, 0, 348, 269, 31, 268, 270]) := rfl
theorem c77_77 : xCD 77 77 = some (.aload_n 0, []) := rfl
theorem c77_78 : xCD 77 78 = some (.getfield 40, [6, 2, 106]) := rfl
theorem c77_81 : xCD 77 81 = some (.iload_n 1, []) := rfl
theorem c77_82 : xCD 77 82 = some (.iconst 1, []) := rfl
theorem c77_83 : xCD 77 83 = some (.iadd, []) := rfl
theorem c77_84 : xCD 77 84 = some (.invokevirtual 106, [52, 1, 0, 348, 269, 31, 268, 270]) := rfl
theorem c77_87 : xCD 77 87 = some (.return_, []) := rfl
theorem c78_0 : xCD 78 0 = some (.aload_n 0, []) := rfl
theorem c78_1 : xCD 78 1 = some (.getfield 22, [6, 6, 101]) := rfl
theorem c78_4 : xCD 78 4 = some (.ifCond .eq 10, [14]) := rfl
theorem c78_7 : xCD 78 7 = some (.aload_n 0, []) := rfl
theorem c78_8 : xCD 78 8 = some (.getfield 25, [6, 7, 102]) := rfl
theorem c78_11 : xCD 78 11 = some (.goto 5, [16]) := rfl
theorem c78_14 : xCD 78 14 = some (.bipush (-4), []) := rfl
theorem c78_16 : xCD 78 16 = some (.ireturn, []) := rfl
theorem c79_0 : xCD 79 0 = some (.aload_n 0, []) := rfl
theorem c79_1 : xCD 79 1 = some (.getfield 22, [6, 6, 101]) := rfl
theorem c79_4 : xCD 79 4 = some (.ifCond .eq 32, [36]) := rfl
theorem c79_7 : xCD 79 7 = some (.iload_n 1, []) := rfl
theorem c79_8 : xCD 79 8 = some (.iconst 1, []) := rfl
theorem c79_9 : xCD 79 9 = some (.if_icmp .lt 27, [36]) := rfl
theorem c79_12 : xCD 79 12 = some (.iload_n 1, []) := rfl
theorem c79_13 : xCD 79 13 = some (.aload_n 0, []) := rfl
theorem c79_14 : xCD 79 14 = some (.getfield 29, [6, 8, 103]) := rfl
theorem c79_17 : xCD 79 17 = some (.if_icmp .gt 19, [36]) := rfl
theorem c79_20 : xCD 79 20 = some (.iload_n 1, []) := rfl
theorem c79_21 : xCD 79 21 = some (.iconst 3, []) := rfl
theorem c79_22 : xCD 79 22 = some (.if_icmp .gt 14, [36]) := rfl
theorem c79_25 : xCD 79 25 = some (.aload_n 0, []) := rfl
theorem c79_26 : xCD 79 26 = some (.getfield 15, [6, 4, 99]) := rfl
theorem c79_29 : xCD 79 29 = some (.iload_n 1, []) := rfl
theorem c79_30 : xCD 79 30 = some (.iconst 1, []) := rfl
theorem c79_31 : xCD 79 31 = some (.isub, []) := rfl
theorem c79_32 : xCD 79 32 = some (.iaload, []) := rfl
theorem c79_33 : xCD 79 33 = some (.goto 5, [38]) := rfl
theorem c79_36 : xCD 79 36 = some (.bipush (-4), []) := rfl
theorem c79_38 : xCD 79 38 = some (.ireturn, []) := rfl
theorem c80_0 : xCD 80 0 = some (.iload_n 1, []) := rfl
theorem c80_1 : xCD 80 1 = some (.ifCond .lt 8, [9]) := rfl
theorem c80_4 : xCD 80 4 = some (.iload_n 1, []) := rfl
theorem c80_5 : xCD 80 5 = some (.iconst 3, []) := rfl
theorem c80_6 : xCD 80 6 = some (.if_icmp .le 5, [11]) := rfl
theorem c80_9 : xCD 80 9 = some (.iconst (-1), []) := rfl
theorem c80_10 : xCD 80 10 = some (.ireturn, []) := rfl
theorem c80_11 : xCD 80 11 = some (.aload_n 0, []) := rfl
theorem c80_12 : xCD 80 12 = some (.invokevirtual 106, [42, 0, 0, 216, 218, 61, 217, 219]) := rfl
theorem c80_15 : xCD 80 15 = some (.aload_n 0, []) := rfl
theorem c80_16 : xCD 80 16 = some (.getfield 57, [0, 7, 42]) := rfl
theorem c80_19 : xCD 80 19 = some (.iconst 1, []) := rfl
theorem c80_20 : xCD 80 20 = some (.invokevirtual 173, [72, 1, 0, 306, 308, 38, 307, 309]) := rfl
theorem c80_23 : xCD 80 23 = some (.aload_n 0, []) := rfl
theorem c80_24 : xCD 80 24 = some (.getfield 57, [0, 7, 42]) := rfl
theorem c80_27 : xCD 80 27 = some (.iconst 0, []) := rfl
theorem c80_28 : xCD 80 28 = some (.iconst 0, []) := rfl
theorem c80_29 : xCD 80 29 = some (.iconst 0, []) := rfl
theorem c80_30 : xCD 80 30 = some (.invokevirtual 177, [73, 3, 1, 8, 311, 38, 310, 312]) := rfl
theorem c80_33 : xCD 80 33 = some (.iload_n 1, []) := rfl
theorem c80_34 : xCD 80 34 = some (.ifCond .ne 13, [47]) := rfl
theorem c80_37 : xCD 80 37 = some (.aload_n 0, []) := rfl
theorem c80_38 : xCD 80 38 = some (.getfield 57, [0, 7, 42]) := rfl
theorem c80_41 : xCD 80 41 = some (.invokevirtual 186, [81, 0, 0, 350, 352, 38, 351, 353]) := rfl
theorem c80_44 : xCD 80 44 = some (.goto 11, [55]) := rfl
theorem c80_47 : xCD 80 47 = some (.aload_n 0, []) := rfl
theorem c80_48 : xCD 80 48 = some (.getfield 57, [0, 7, 42]) := rfl
theorem c80_51 : xCD 80 51 = some (.iload_n 1, []) := rfl
theorem c80_52 : xCD 80 52 = some (.invokevirtual 183, [79, 1, 0, 317, 319, 38, 318, 320]) := rfl
theorem c80_55 : xCD 80 55 = some (.ireturn, []) := rfl
theorem c81_0 : xCD 81 0 = some (.aload_n 0, []) := rfl
theorem c81_1 : xCD 81 1 = some (.getfield 22, [6, 6, 101]) := rfl
theorem c81_4 : xCD 81 4 = some (.ifCond .eq 10, [14]) := rfl
theorem c81_7 : xCD 81 7 = some (.aload_n 0, []) := rfl
theorem c81_8 : xCD 81 8 = some (.getfield 29, [6, 8, 103]) := rfl
theorem c81_11 : xCD 81 11 = some (.goto 5, [16]) := rfl
theorem c81_14 : xCD 81 14 = some (.bipush (-4), []) := rfl
theorem c81_16 : xCD 81 16 = some (.ireturn, []) := rfl
theorem c82_0 : xCD 82 0 = some (.iload_n 1, []) := rfl
theorem c82_1 : xCD 82 1 = some (.ifCond .lt 14, [15]) := rfl
theorem c82_4 : xCD 82 4 = some (.iload_n 1, []) := rfl
theorem c82_5 : xCD 82 5 = some (.aload_n 0, []) := rfl
theorem c82_6 : xCD 82 6 = some (.getfield 19, [0, 1, 14]) := rfl
theorem c82_9 : xCD 82 9 = some (.getfield 189, [2, 0, 354]) := rfl
theorem c82_12 : xCD 82 12 = some (.if_icmp .lt 5, [17]) := rfl
theorem c82_15 : xCD 82 15 = some (.iconst (-1), []) := rfl
theorem c82_16 : xCD 82 16 = some (.ireturn, []) := rfl
theorem c82_17 : xCD 82 17 = some (.aload_n 0, []) := rfl
theorem c82_18 : xCD 82 18 = some (.invokevirtual 106, [42, 0, 0, 216, 218, 61, 217, 219]) := rfl
theorem c82_21 : xCD 82 21 = some (.aload_n 0, []) := rfl
theorem c82_22 : xCD 82 22 = some (.getfield 19, [0, 1, 14]) := rfl
theorem c82_25 : xCD 82 25 = some (.invokevirtual 192, [36, 0, 0, 157, 159, 11, 158, 160]) := rfl
theorem c82_28 : xCD 82 28 = some (.istore_n 2, []) := rfl
theorem c82_29 : xCD 82 29 = some (.iconst 0, []) := rfl
theorem c82_30 : xCD 82 30 = some (.istore_n 3, []) := rfl
theorem c82_31 : xCD 82 31 = some (.iload_n 3, []) := rfl
theorem c82_32 : xCD 82 32 = some (.iload_n 2, []) := rfl
theorem c82_33 : xCD 82 33 = some (.if_icmp .ge 51, [84]) := rfl
theorem c82_36 : xCD 82 36 = some (.iload_n 3, []) := rfl
theorem c82_37 : xCD 82 37 = some (.bipush 36, []) := rfl
theorem c82_39 : xCD 82 39 = some (.if_icmp .ge 45, [84]) := rfl
theorem c82_42 : xCD 82 42 = some (.aload_n 0, []) := rfl
theorem c82_43 : xCD 82 43 = some (.getfield 19, [0, 1, 14]) := rfl
theorem c82_46 : xCD 82 46 = some (.getfield 100, [2, 3, 214]) := rfl
theorem c82_49 : xCD 82 49 = some (.iload_n 3, []) := rfl
theorem c82_50 : xCD 82 50 = some (.iaload, []) := rfl
theorem c82_51 : xCD 82 51 = some (.istore 4, []) := rfl
theorem c82_53 : xCD 82 53 = some (.aload_n 0, []) := rfl
theorem c82_54 : xCD 82 54 = some (.getfield 40, [0, 5, 28]) := rfl
theorem c82_57 : xCD 82 57 = some (.getfield 103, [3, 0, 215]) := rfl
theorem c82_60 : xCD 82 60 = some (.iload_n 3, []) := rfl
theorem c82_61 : xCD 82 61 = some (.iaload, []) := rfl
theorem c82_62 : xCD 82 62 = some (.iload 4, []) := rfl
theorem c82_64 : xCD 82 64 = some (.if_icmp .eq 14, [78]) := rfl
theorem c82_67 : xCD 82 67 = some (.aload_n 0, []) := rfl
theorem c82_68 : xCD 82 68 = some (.getfield 40, [0, 5, 28]) := rfl
theorem c82_71 : xCD 82 71 = some (.iload_n 3, []) := rfl
theorem c82_72 : xCD 82 72 = some (.iload 4, []) := rfl
theorem c82_74 : xCD 82 74 = some (.iconst 0, []) := rfl
theorem c82_75 : xCD 82 75 = some (.invokevirtual 140, [31, 3, 0, 284, 211, 17, 210, 212]) := rfl
theorem c82_78 : xCD 82 78 = some (.iinc 3 1, []) := rfl
theorem c82_81 : xCD 82 81 = some (.goto (-50), [31]) := rfl
theorem c82_84 : xCD 82 84 = some (.iconst 0, []) := rfl
theorem c82_85 : xCD 82 85 = some (.istore_n 3, []) := rfl
theorem c82_86 : xCD 82 86 = some (.iconst 0, []) := rfl
theorem c82_87 : xCD 82 87 = some (.istore 4, []) := rfl
theorem c82_89 : xCD 82 89 = some (.iload 4, []) := rfl
theorem c82_91 : xCD 82 91 = some (.aload_n 0, []) := rfl
theorem c82_92 : xCD 82 92 = some (.getfield 19, [0, 1, 14]) := rfl
theorem c82_95 : xCD 82 95 = some (.getfield 195, [2, 1, 355]) := rfl
theorem c82_98 : xCD 82 98 = some (.if_icmp .ge 38, [136]) := rfl
theorem c82_101 : xCD 82 101 = some (.aload_n 0, []) := rfl
theorem c82_102 : xCD 82 102 = some (.getfield 48, [0, 6, 35]) := rfl
theorem c82_105 : xCD 82 105 = some (.iload_n 1, []) := rfl
theorem c82_106 : xCD 82 106 = some (.aload_n 0, []) := rfl
theorem c82_107 : xCD 82 107 = some (.getfield 19, [0, 1, 14]) := rfl
theorem c82_110 : xCD 82 110 = some (.getfield 195, [2, 1, 355]) := rfl
theorem c82_113 : xCD 82 113 = some (.imul, []) := rfl
theorem c82_114 : xCD 82 114 = some (.iload 4, []) := rfl
theorem c82_116 : xCD 82 116 = some (.iadd, []) := rfl
theorem c82_117 : xCD 82 117 = some (.invokevirtual 113, [45, 1, 0, 224, 226, 31, 225, 227]) := rfl
theorem c82_120 : xCD 82 120 = some (.ifCond .le 10, [130]) := rfl
theorem c82_123 : xCD 82 123 = some (.iload_n 3, []) := rfl
theorem c82_124 : xCD 82 124 = some (.iconst 1, []) := rfl
theorem c82_125 : xCD 82 125 = some (.iload 4, []) := rfl
theorem c82_127 : xCD 82 127 = some (.ishl, []) := rfl
theorem c82_128 : xCD 82 128 = some (.ior, []) := rfl
theorem c82_129 : xCD 82 129 = some (.istore_n 3, []) := rfl
theorem c82_130 : xCD 82 130 = some (.iinc 4 1, []) := rfl
theorem c82_133 : xCD 82 133 = some (.goto (-44), [89]) := rfl
theorem c82_136 : xCD 82 136 = some (.iload_n 3, []) := rfl
theorem c82_137 : xCD 82 137 = some (.ireturn, []) := rfl
theorem c83_0 : xCD 83 0 = some (.iload_n 1, []) := rfl
theorem c83_1 : xCD 83 1 = some (.ifCond .lt 19, [20]) := rfl
theorem c83_4 : xCD 83 4 = some (.iload_n 1, []) := rfl
theorem c83_5 : xCD 83 5 = some (.iconst 4, []) := rfl
theorem c83_6 : xCD 83 6 = some (.if_icmp .ge 14, [20]) := rfl
theorem c83_9 : xCD 83 9 = some (.iload_n 2, []) := rfl
theorem c83_10 : xCD 83 10 = some (.ifCond .lt 10, [20]) := rfl
theorem c83_13 : xCD 83 13 = some (.iload_n 2, []) := rfl
theorem c83_14 : xCD 83 14 = some (.sipush 999, []) := rfl
theorem c83_17 : xCD 83 17 = some (.if_icmp .le 5, [22]) := rfl
theorem c83_20 : xCD 83 20 = some (.iconst (-1), []) := rfl
theorem c83_21 : xCD 83 21 = some (.ireturn, []) := rfl
theorem c83_22 : xCD 83 22 = some (.aload_n 0, []) := rfl
theorem c83_23 : xCD 83 23 = some (.getfield 68, [0, 10, 46]) := rfl
theorem c83_26 : xCD 83 26 = some (.ifCond .lt 12, [38]) := rfl
theorem c83_29 : xCD 83 29 = some (.aload_n 0, []) := rfl
theorem c83_30 : xCD 83 30 = some (.getfield 68, [0, 10, 46]) := rfl
theorem c83_33 : xCD 83 33 = some (.bipush 6, []) := rfl
theorem c83_35 : xCD 83 35 = some (.if_icmp .lt 6, [41]) := rfl
theorem c83_38 : xCD 83 38 = some (.bipush (-3), []) := rfl
theorem c83_40 : xCD 83 40 = some (.ireturn, []) := rfl
theorem c83_41 : xCD 83 41 = some (.aload_n 0, []) := rfl
theorem c83_42 : xCD 83 42 = some (.getfield 61, [0, 8, 44]) := rfl
theorem c83_45 : xCD 83 45 = some (.aload_n 0, []) := rfl
theorem c83_46 : xCD 83 46 = some (.getfield 68, [0, 10, 46]) := rfl
theorem c83_49 : xCD 83 49 = some (.iload_n 1, []) := rfl
theorem c83_50 : xCD 83 50 = some (.iastore, []) := rfl
theorem c83_51 : xCD 83 51 = some (.aload_n 0, []) := rfl
theorem c83_52 : xCD 83 52 = some (.getfield 65, [0, 9, 45]) := rfl
theorem c83_55 : xCD 83 55 = some (.aload_n 0, []) := rfl
theorem c83_56 : xCD 83 56 = some (.getfield 68, [0, 10, 46]) := rfl
theorem c83_59 : xCD 83 59 = some (.iload_n 2, []) := rfl
theorem c83_60 : xCD 83 60 = some (.iastore, []) := rfl
theorem c83_61 : xCD 83 61 = some (.aload_n 0, []) := rfl
theorem c83_62 : xCD 83 62 = some (.dup, []) := rfl
theorem c83_63 : xCD 83 63 = some (.getfield 68, [0, 10, 46]) := rfl
theorem c83_66 : xCD 83 66 = some (.iconst 1, []) := rfl
theorem c83_67 : xCD 83 67 = some (.iadd, []) := rfl
theorem c83_68 : xCD 83 68 = some (.putfield 68, [0, 10, 46]) := rfl
theorem c83_71 : xCD 83 71 = some (.aload_n 0, []) := rfl
theorem c83_72 : xCD 83 72 = some (.getfield 68, [0, 10, 46]) := rfl
theorem c83_75 : xCD 83 75 = some (.ireturn, []) := rfl
theorem c84_0 : xCD 84 0 = some (.aload_n 0, []) := rfl
theorem c84_1 : xCD 84 1 = some (.getfield 68, [0, 10, 46]) := rfl
theorem c84_4 : xCD 84 4 = some (.istore_n 1, []) := rfl
theorem c84_5 : xCD 84 5 = some (.aload_n 0, []) := rfl
theorem c84_6 : xCD 84 6 = some (.iconst 0, []) := rfl
theorem c84_7 : xCD 84 7 = some (.putfield 68, [0, 10, 46]) := rfl
theorem c84_10 : xCD 84 10 = some (.iload_n 1, []) := rfl
theorem c84_11 : xCD 84 11 = some (.ireturn, []) := rfl
theorem c85_0 : xCD 85 0 = some (.iload_n 1, []) := rfl
theorem c85_1 : xCD 85 1 = some (.ifCond .lt 8, [9]) := rfl
theorem c85_4 : xCD 85 4 = some (.iload_n 1, []) := rfl
theorem c85_5 : xCD 85 5 = some (.iconst 1, []) := rfl
theorem c85_6 : xCD 85 6 = some (.if_icmp .le 5, [11]) := rfl
theorem c85_9 : xCD 85 9 = some (.iconst (-1), []) := rfl
theorem c85_10 : xCD 85 10 = some (.ireturn, []) := rfl
theorem c85_11 : xCD 85 11 = some (.aload_n 0, []) := rfl
theorem c85_12 : xCD 85 12 = some (.invokevirtual 106, [42, 0, 0, 216, 218, 61, 217, 219]) := rfl
theorem c85_15 : xCD 85 15 = some (.aload_n 0, []) := rfl
theorem c85_16 : xCD 85 16 = some (.getfield 19, [0, 1, 14]) := rfl
theorem c85_19 : xCD 85 19 = some (.invokevirtual 192, [36, 0, 0, 157, 159, 11, 158, 160]) := rfl
theorem c85_22 : xCD 85 22 = some (.istore_n 2, []) := rfl
theorem c85_23 : xCD 85 23 = some (.iconst 0, []) := rfl
theorem c85_24 : xCD 85 24 = some (.istore_n 3, []) := rfl
theorem c85_25 : xCD 85 25 = some (.bipush (-4), []) := rfl
theorem c85_27 : xCD 85 27 = some (.istore 4, []) := rfl
theorem c85_29 : xCD 85 29 = some (.iconst 0, []) := rfl
theorem c85_30 : xCD 85 30 = some (.istore 5, []) := rfl
theorem c85_32 : xCD 85 32 = some (.iload 5, []) := rfl
theorem c85_34 : xCD 85 34 = some (.iload_n 2, []) := rfl
theorem c85_35 : xCD 85 35 = some (.if_icmp .ge 113, [148]) := rfl
theorem c85_38 : xCD 85 38 = some (.iload 5, []) := rfl
theorem c85_40 : xCD 85 40 = some (.bipush 36, []) := rfl
theorem c85_42 : xCD 85 42 = some (.if_icmp .ge 106, [148]) := rfl
theorem c85_45 : xCD 85 45 = some (.iload 5, []) := rfl
theorem c85_47 : xCD 85 47 = some (.iconst 1, []) := rfl
theorem c85_48 : xCD 85 48 = some (.iadd, []) := rfl
theorem c85_49 : xCD 85 49 = some (.istore 6, []) := rfl
theorem c85_51 : xCD 85 51 = some (.iload 6, []) := rfl
theorem c85_53 : xCD 85 53 = some (.iload_n 2, []) := rfl
theorem c85_54 : xCD 85 54 = some (.if_icmp .ge 88, [142]) := rfl
theorem c85_57 : xCD 85 57 = some (.iload 6, []) := rfl
theorem c85_59 : xCD 85 59 = some (.bipush 36, []) := rfl
theorem c85_61 : xCD 85 61 = some (.if_icmp .ge 81, [142]) := rfl
theorem c85_64 : xCD 85 64 = some (.aload_n 0, []) := rfl
theorem c85_65 : xCD 85 65 = some (.getfield 40, [0, 5, 28]) := rfl
theorem c85_68 : xCD 85 68 = some (.getfield 103, [3, 0, 215]) := rfl
theorem c85_71 : xCD 85 71 = some (.iload 5, []) := rfl
theorem c85_73 : xCD 85 73 = some (.iaload, []) := rfl
theorem c85_74 : xCD 85 74 = some (.aload_n 0, []) := rfl
theorem c85_75 : xCD 85 75 = some (.getfield 40, [0, 5, 28]) := rfl
theorem c85_78 : xCD 85 78 = some (.getfield 103, [3, 0, 215]) := rfl
theorem c85_81 : xCD 85 81 = some (.iload 6, []) := rfl
theorem c85_83 : xCD 85 83 = some (.iaload, []) := rfl
theorem c85_84 : xCD 85 84 = some (.if_icmp .ne 6, [90]) := rfl
theorem c85_87 : xCD 85 87 = some (.goto 49, [136]) := rfl
theorem c85_90 : xCD 85 90 = some (.aload_n 0, []) := rfl
theorem c85_91 : xCD 85 91 = some (.getfield 40, [0, 5, 28]) := rfl
theorem c85_94 : xCD 85 94 = some (.iload 5, []) := rfl
theorem c85_96 : xCD 85 96 = some (.iload 6, []) := rfl
theorem c85_98 : xCD 85 98 = some (.invokevirtual 198, [87, 2, 0, 356, 358, 17, 357, 359]) := rfl
theorem c85_101 : xCD 85 101 = some (.aload_n 0, []) := rfl
theorem c85_102 : xCD 85 102 = some (.invokevirtual 202, [88, 0, 0, 360, 362, 61, 361, 363]) := rfl
theorem c85_105 : xCD 85 105 = some (.ifCond .eq 20, [125]) := rfl
theorem c85_108 : xCD 85 108 = some (.iload_n 3, []) := rfl
theorem c85_109 : xCD 85 109 = some (.ifCond .ne 13, [122]) := rfl
theorem c85_112 : xCD 85 112 = some (.bipush 100, []) := rfl
theorem c85_114 : xCD 85 114 = some (.iload 5, []) := rfl
theorem c85_116 : xCD 85 116 = some (.imul, []) := rfl
theorem c85_117 : xCD 85 117 = some (.iload 6, []) := rfl
theorem c85_119 : xCD 85 119 = some (.iadd, []) := rfl
theorem c85_120 : xCD 85 120 = some (.istore 4, []) := rfl
theorem c85_122 : xCD 85 122 = some (.iinc 3 1, []) := rfl
theorem c85_125 : xCD 85 125 = some (.aload_n 0, []) := rfl
theorem c85_126 : xCD 85 126 = some (.getfield 40, [0, 5, 28]) := rfl
theorem c85_129 : xCD 85 129 = some (.iload 5, []) := rfl
theorem c85_131 : xCD 85 131 = some (.iload 6, []) := rfl
theorem c85_133 : xCD 85 133 = some (.invokevirtual 198, [87, 2, 0, 356, 358, 17, 357, 359]) := rfl
theorem c85_136 : xCD 85 136 = some (.iinc 6 1, []) := rfl
theorem c85_139 : xCD 85 139 = some (.goto (-88), [51]) := rfl
theorem c85_142 : xCD 85 142 = some (.iinc 5 1, []) := rfl
theorem c85_145 : xCD 85 145 = some (.goto (-113), [32]) := rfl
theorem c85_148 : xCD 85 148 = some (.iload_n 1, []) := rfl
theorem c85_149 : xCD 85 149 = some (.ifCond .ne 7, [156]) := rfl
theorem c85_152 : xCD 85 152 = some (.iload_n 3, []) := rfl
theorem c85_153 : xCD 85 153 = some (.goto 5, [158]) := rfl
theorem c85_156 : xCD 85 156 = some (.iload 4, []) := rfl
theorem c85_158 : xCD 85 158 = some (.ireturn, []) := rfl
theorem c87_0 : xCD 87 0 = some (.iload_n 1, []) := rfl
theorem c87_1 : xCD 87 1 = some (.ifCond .lt 19, [20]) := rfl
theorem c87_4 : xCD 87 4 = some (.iload_n 1, []) := rfl
theorem c87_5 : xCD 87 5 = some (.bipush 36, []) := rfl
theorem c87_7 : xCD 87 7 = some (.if_icmp .ge 13, [20]) := rfl
theorem c87_10 : xCD 87 10 = some (.iload_n 2, []) := rfl
theorem c87_11 : xCD 87 11 = some (.ifCond .lt 9, [20]) := rfl
theorem c87_14 : xCD 87 14 = some (.iload_n 2, []) := rfl
theorem c87_15 : xCD 87 15 = some (.bipush 36, []) := rfl
theorem c87_17 : xCD 87 17 = some (.if_icmp .lt 4, [21]) := rfl
theorem c87_20 : xCD 87 20 = some (.return_, []) := rfl
theorem c87_21 : xCD 87 21 = some (.aload_n 0, []) := rfl
theorem c87_22 : xCD 87 22 = some (.getfield 9, [3, 0, 81]) := rfl
theorem c87_25 : xCD 87 25 = some (.iload_n 1, []) := rfl
theorem c87_26 : xCD 87 26 = some (.iaload, []) := rfl
theorem c87_27 : xCD 87 27 = some (.istore_n 3, []) := rfl
theorem c87_28 : xCD 87 28 = some (.aload_n 0, []) := rfl
theorem c87_29 : xCD 87 29 = some (.getfield 15, [3, 1, 82]) := rfl
theorem c87_32 : xCD 87 32 = some (.iload_n 1, []) := rfl
theorem c87_33 : xCD 87 33 = some (.iaload, []) := rfl
theorem c87_34 : xCD 87 34 = some (.istore 4, []) := rfl
theorem c87_36 : xCD 87 36 = some (.aload_n 0, []) := rfl
theorem c87_37 : xCD 87 37 = some (.iload_n 1, []) := rfl
theorem c87_38 : xCD 87 38 = some (.aload_n 0, []) := rfl
theorem c87_39 : xCD 87 39 = some (.getfield 9, [3, 0, 81]) := rfl
theorem c87_42 : xCD 87 42 = some (.iload_n 2, []) := rfl
theorem c87_43 : xCD 87 43 = some (.iaload, []) := rfl
theorem c87_44 : xCD 87 44 = some (.aload_n 0, []) := rfl
theorem c87_45 : xCD 87 45 = some (.getfield 15, [3, 1, 82]) := rfl
theorem c87_48 : xCD 87 48 = some (.iload_n 2, []) := rfl
theorem c87_49 : xCD 87 49 = some (.iaload, []) := rfl
theorem c87_50 : xCD 87 50 = some (.invokevirtual 32, [31, 3, 0, 615, 211, 17, 210, 212]) := rfl
theorem c87_53 : xCD 87 53 = some (.aload_n 0, []) := rfl
theorem c87_54 : xCD 87 54 = some (.iload_n 2, []) := rfl
theorem c87_55 : xCD 87 55 = some (.iload_n 3, []) := rfl
theorem c87_56 : xCD 87 56 = some (.iload 4, []) := rfl
theorem c87_58 : xCD 87 58 = some (.invokevirtual 32, [31, 3, 0, 615, 211, 17, 210, 212]) := rfl
theorem c87_61 : xCD 87 61 = some (.return_, []) := rfl
theorem c88_0 : xCD 88 0 = some (.iconst 0, []) := rfl
theorem c88_1 : xCD 88 1 = some (.istore_n 1, []) := rfl
theorem c88_2 : xCD 88 2 = some (.iload_n 1, []) := rfl
theorem c88_3 : xCD 88 3 = some (.aload_n 0, []) := rfl
theorem c88_4 : xCD 88 4 = some (.getfield 68, [0, 10, 46]) := rfl
theorem c88_7 : xCD 88 7 = some (.if_icmp .ge 46, [53]) := rfl
theorem c88_10 : xCD 88 10 = some (.iload_n 1, []) := rfl
theorem c88_11 : xCD 88 11 = some (.bipush 6, []) := rfl
theorem c88_13 : xCD 88 13 = some (.if_icmp .ge 40, [53]) := rfl
theorem c88_16 : xCD 88 16 = some (.aload_n 0, []) := rfl
theorem c88_17 : xCD 88 17 = some (.getfield 40, [0, 5, 28]) := rfl
theorem c88_20 : xCD 88 20 = some (.aload_n 0, []) := rfl
theorem c88_21 : xCD 88 21 = some (.getfield 61, [0, 8, 44]) := rfl
theorem c88_24 : xCD 88 24 = some (.iload_n 1, []) := rfl
theorem c88_25 : xCD 88 25 = some (.iaload, []) := rfl
theorem c88_26 : xCD 88 26 = some (.putfield 150, [3, 3, 291]) := rfl
theorem c88_29 : xCD 88 29 = some (.aload_n 0, []) := rfl
theorem c88_30 : xCD 88 30 = some (.getfield 48, [0, 6, 35]) := rfl
theorem c88_33 : xCD 88 33 = some (.invokevirtual 123, [51, 0, 0, 257, 259, 31, 258, 260]) := rfl
theorem c88_36 : xCD 88 36 = some (.aload_n 0, []) := rfl
theorem c88_37 : xCD 88 37 = some (.getfield 65, [0, 9, 45]) := rfl
theorem c88_40 : xCD 88 40 = some (.iload_n 1, []) := rfl
theorem c88_41 : xCD 88 41 = some (.iaload, []) := rfl
theorem c88_42 : xCD 88 42 = some (.if_icmp .eq 5, [47]) := rfl
theorem c88_45 : xCD 88 45 = some (.iconst 0, []) := rfl
theorem c88_46 : xCD 88 46 = some (.ireturn, []) := rfl
theorem c88_47 : xCD 88 47 = some (.iinc 1 1, []) := rfl
theorem c88_50 : xCD 88 50 = some (.goto (-48), [2]) := rfl
theorem c88_53 : xCD 88 53 = some (.iconst 1, []) := rfl
theorem c88_54 : xCD 88 54 = some (.ireturn, []) := rfl
theorem c89_0 : xCD 89 0 = some (.iload_n 1, []) := rfl
theorem c89_1 : xCD 89 1 = some (.ifCond .lt 8, [9]) := rfl
theorem c89_4 : xCD 89 4 = some (.iload_n 1, []) := rfl
theorem c89_5 : xCD 89 5 = some (.iconst 1, []) := rfl
theorem c89_6 : xCD 89 6 = some (.if_icmp .le 5, [11]) := rfl
theorem c89_9 : xCD 89 9 = some (.iconst (-1), []) := rfl
theorem c89_10 : xCD 89 10 = some (.ireturn, []) := rfl
theorem c89_11 : xCD 89 11 = some (.aload_n 0, []) := rfl
theorem c89_12 : xCD 89 12 = some (.invokevirtual 106, [42, 0, 0, 216, 218, 61, 217, 219]) := rfl
theorem c89_15 : xCD 89 15 = some (.iconst 0, []) := rfl
theorem c89_16 : xCD 89 16 = some (.istore_n 2, []) := rfl
theorem c89_17 : xCD 89 17 = some (.bipush (-4), []) := rfl
theorem c89_19 : xCD 89 19 = some (.istore_n 3, []) := rfl
theorem c89_20 : xCD 89 20 = some (.iconst 0, []) := rfl
theorem c89_21 : xCD 89 21 = some (.istore 4, []) := rfl
theorem c89_23 : xCD 89 23 = some (.iload 4, []) := rfl
theorem c89_25 : xCD 89 25 = some (.aload_n 0, []) := rfl
theorem c89_26 : xCD 89 26 = some (.getfield 19, [0, 1, 14]) := rfl
theorem c89_29 : xCD 89 29 = some (.invokevirtual 192, [36, 0, 0, 157, 159, 11, 158, 160]) := rfl
theorem c89_32 : xCD 89 32 = some (.if_icmp .ge 38, [70]) := rfl
theorem c89_35 : xCD 89 35 = some (.aload_n 0, []) := rfl
theorem c89_36 : xCD 89 36 = some (.getfield 40, [0, 5, 28]) := rfl
theorem c89_39 : xCD 89 39 = some (.iload 4, []) := rfl
theorem c89_41 : xCD 89 41 = some (.putfield 153, [3, 4, 140]) := rfl
theorem c89_44 : xCD 89 44 = some (.aload_n 0, []) := rfl
theorem c89_45 : xCD 89 45 = some (.invokevirtual 202, [88, 0, 0, 360, 362, 61, 361, 363]) := rfl
theorem c89_48 : xCD 89 48 = some (.ifCond .ne 6, [54]) := rfl
theorem c89_51 : xCD 89 51 = some (.goto 13, [64]) := rfl
theorem c89_54 : xCD 89 54 = some (.iload_n 2, []) := rfl
theorem c89_55 : xCD 89 55 = some (.ifCond .ne 6, [61]) := rfl
theorem c89_58 : xCD 89 58 = some (.iload 4, []) := rfl
theorem c89_60 : xCD 89 60 = some (.istore_n 3, []) := rfl
theorem c89_61 : xCD 89 61 = some (.iinc 2 1, []) := rfl
theorem c89_64 : xCD 89 64 = some (.iinc 4 1, []) := rfl
theorem c89_67 : xCD 89 67 = some (.goto (-44), [23]) := rfl
theorem c89_70 : xCD 89 70 = some (.iload_n 1, []) := rfl
theorem c89_71 : xCD 89 71 = some (.ifCond .ne 7, [78]) := rfl
theorem c89_74 : xCD 89 74 = some (.iload_n 2, []) := rfl
theorem c89_75 : xCD 89 75 = some (.goto 4, [79]) := rfl
theorem c89_78 : xCD 89 78 = some (.iload_n 3, []) := rfl
theorem c89_79 : xCD 89 79 = some (.ireturn, []) := rfl
theorem c90_0 : xCD 90 0 = some (.aload_n 0, []) := rfl
theorem c90_1 : xCD 90 1 = some (.getfield 19, [0, 1, 14]) := rfl
theorem c90_4 : xCD 90 4 = some (.iload_n 1, []) := rfl
theorem c90_5 : xCD 90 5 = some (.invokevirtual 96, [30, 1, 0, 141, 143, 11, 142, 144]) := rfl
theorem c90_8 : xCD 90 8 = some (.ifCond .ne 5, [13]) := rfl
theorem c90_11 : xCD 90 11 = some (.iconst (-1), []) := rfl
theorem c90_12 : xCD 90 12 = some (.ireturn, []) := rfl
theorem c90_13 : xCD 90 13 = some (.aload_n 0, []) := rfl
theorem c90_14 : xCD 90 14 = some (.invokevirtual 106, [42, 0, 0, 216, 218, 61, 217, 219]) := rfl
theorem c90_17 : xCD 90 17 = some (.aload_n 0, []) := rfl
theorem c90_18 : xCD 90 18 = some (.getfield 19, [0, 1, 14]) := rfl
theorem c90_21 : xCD 90 21 = some (.getfield 100, [2, 3, 214]) := rfl
theorem c90_24 : xCD 90 24 = some (.iload_n 1, []) := rfl
theorem c90_25 : xCD 90 25 = some (.iaload, []) := rfl
theorem c90_26 : xCD 90 26 = some (.istore_n 2, []) := rfl
theorem c90_27 : xCD 90 27 = some (.iconst 0, []) := rfl
theorem c90_28 : xCD 90 28 = some (.istore_n 3, []) := rfl
theorem c90_29 : xCD 90 29 = some (.iconst 0, []) := rfl
theorem c90_30 : xCD 90 30 = some (.istore 4, []) := rfl
theorem c90_32 : xCD 90 32 = some (.iload 4, []) := rfl
theorem c90_34 : xCD 90 34 = some (.bipush 8, []) := rfl
theorem c90_36 : xCD 90 36 = some (.if_icmp .ge 34, [70]) := rfl
theorem c90_39 : xCD 90 39 = some (.aload_n 0, []) := rfl
theorem c90_40 : xCD 90 40 = some (.getfield 19, [0, 1, 14]) := rfl
theorem c90_43 : xCD 90 43 = some (.getfield 100, [2, 3, 214]) := rfl
theorem c90_46 : xCD 90 46 = some (.iload_n 1, []) := rfl
theorem c90_47 : xCD 90 47 = some (.iload 4, []) := rfl
theorem c90_49 : xCD 90 49 = some (.iastore, []) := rfl
theorem c90_50 : xCD 90 50 = some (.aload_n 0, []) := rfl
theorem c90_51 : xCD 90 51 = some (.invokevirtual 202, [88, 0, 0, 360, 362, 61, 361, 363]) := rfl
theorem c90_54 : xCD 90 54 = some (.ifCond .eq 10, [64]) := rfl
theorem c90_57 : xCD 90 57 = some (.iload_n 3, []) := rfl
theorem c90_58 : xCD 90 58 = some (.iconst 1, []) := rfl
theorem c90_59 : xCD 90 59 = some (.iload 4, []) := rfl
theorem c90_61 : xCD 90 61 = some (.ishl, []) := rfl
theorem c90_62 : xCD 90 62 = some (.ior, []) := rfl
theorem c90_63 : xCD 90 63 = some (.istore_n 3, []) := rfl
theorem c90_64 : xCD 90 64 = some (.iinc 4 1, []) := rfl
theorem c90_67 : xCD 90 67 = some (.goto (-35), [32]) := rfl
theorem c90_70 : xCD 90 70 = some (.aload_n 0, []) := rfl
theorem c90_71 : xCD 90 71 = some (.getfield 19, [0, 1, 14]) := rfl
theorem c90_74 : xCD 90 74 = some (.getfield 100, [2, 3, 214]) := rfl
theorem c90_77 : xCD 90 77 = some (.iload_n 1, []) := rfl
theorem c90_78 : xCD 90 78 = some (.iload_n 2, []) := rfl
theorem c90_79 : xCD 90 79 = some (.iastore, []) := rfl
theorem c90_80 : xCD 90 80 = some (.iload_n 3, []) := rfl
theorem c90_81 : xCD 90 81 = some (.ireturn, []) := rfl
theorem c91_0 : xCD 91 0 = some (.iload_n 1, []) := rfl
theorem c91_1 : xCD 91 1 = some (.ifCond .lt 8, [9]) := rfl
theorem c91_4 : xCD 91 4 = some (.iload_n 1, []) := rfl
theorem c91_5 : xCD 91 5 = some (.iconst 4, []) := rfl
theorem c91_6 : xCD 91 6 = some (.if_icmp .lt 5, [11]) := rfl
theorem c91_9 : xCD 91 9 = some (.iconst (-1), []) := rfl
theorem c91_10 : xCD 91 10 = some (.ireturn, []) := rfl
theorem c91_11 : xCD 91 11 = some (.aload_n 0, []) := rfl
theorem c91_12 : xCD 91 12 = some (.iload_n 1, []) := rfl
theorem c91_13 : xCD 91 13 = some (.invokevirtual 206, [92, 1, 0, 616, 618, 61, 617, 619]) := rfl
theorem c91_16 : xCD 91 16 = some (.ireturn, []) := rfl
theorem c92_0 : xCD 92 0 = some (.aload_n 0, []) := rfl
theorem c92_1 : xCD 92 1 = some (.invokevirtual 106, [42, 0, 0, 216, 218, 61, 217, 219]) := rfl
theorem c92_4 : xCD 92 4 = some (.aload_n 0, []) := rfl
theorem c92_5 : xCD 92 5 = some (.getfield 40, [0, 5, 28]) := rfl
theorem c92_8 : xCD 92 8 = some (.iload_n 1, []) := rfl
theorem c92_9 : xCD 92 9 = some (.putfield 150, [3, 3, 291]) := rfl
theorem c92_12 : xCD 92 12 = some (.aload_n 0, []) := rfl
theorem c92_13 : xCD 92 13 = some (.getfield 48, [0, 6, 35]) := rfl
theorem c92_16 : xCD 92 16 = some (.invokevirtual 123, [51, 0, 0, 257, 259, 31, 258, 260]) := rfl
theorem c92_19 : xCD 92 19 = some (.ireturn, []) := rfl
theorem c93_0 : xCD 93 0 = some (.iload_n 1, []) := rfl
theorem c93_1 : xCD 93 1 = some (.ifCond .lt 8, [9]) := rfl
theorem c93_4 : xCD 93 4 = some (.iload_n 1, []) := rfl
theorem c93_5 : xCD 93 5 = some (.iconst 1, []) := rfl
theorem c93_6 : xCD 93 6 = some (.if_icmp .le 5, [11]) := rfl
theorem c93_9 : xCD 93 9 = some (.iconst (-1), []) := rfl
theorem c93_10 : xCD 93 10 = some (.ireturn, []) := rfl
theorem c93_11 : xCD 93 11 = some (.iconst 0, []) := rfl
theorem c93_12 : xCD 93 12 = some (.istore_n 2, []) := rfl
theorem c93_13 : xCD 93 13 = some (.iconst 0, []) := rfl
theorem c93_14 : xCD 93 14 = some (.istore_n 3, []) := rfl
theorem c93_15 : xCD 93 15 = some (.iload_n 3, []) := rfl
theorem c93_16 : xCD 93 16 = some (.iconst 4, []) := rfl
theorem c93_17 : xCD 93 17 = some (.if_icmp .ge 36, [53]) := rfl
theorem c93_20 : xCD 93 20 = some (.aload_n 0, []) := rfl
theorem c93_21 : xCD 93 21 = some (.iload_n 3, []) := rfl
theorem c93_22 : xCD 93 22 = some (.invokevirtual 206, [92, 1, 0, 616, 618, 61, 617, 619]) := rfl
theorem c93_25 : xCD 93 25 = some (.aload_n 0, []) := rfl
theorem c93_26 : xCD 93 26 = some (.getfield 19, [0, 1, 14]) := rfl
theorem c93_29 : xCD 93 29 = some (.getfield 126, [2, 2, 261]) := rfl
theorem c93_32 : xCD 93 32 = some (.if_icmp .gt 15, [47]) := rfl
theorem c93_35 : xCD 93 35 = some (.iload_n 2, []) := rfl
theorem c93_36 : xCD 93 36 = some (.aload_n 0, []) := rfl
theorem c93_37 : xCD 93 37 = some (.getfield 19, [0, 1, 14]) := rfl
theorem c93_40 : xCD 93 40 = some (.getfield 209, [2, 4, 620]) := rfl
theorem c93_43 : xCD 93 43 = some (.iload_n 3, []) := rfl
theorem c93_44 : xCD 93 44 = some (.iaload, []) := rfl
theorem c93_45 : xCD 93 45 = some (.iadd, []) := rfl
theorem c93_46 : xCD 93 46 = some (.istore_n 2, []) := rfl
theorem c93_47 : xCD 93 47 = some (.iinc 3 1, []) := rfl
theorem c93_50 : xCD 93 50 = some (.goto (-35), [15]) := rfl
theorem c93_53 : xCD 93 53 = some (.iload_n 2, []) := rfl
theorem c93_54 : xCD 93 54 = some (.bipush 10, []) := rfl
theorem c93_56 : xCD 93 56 = some (.invokestatic 212, [94, 2, 0, 621, 623, 61, 622]) := rfl
theorem c93_59 : xCD 93 59 = some (.istore_n 3, []) := rfl
theorem c93_60 : xCD 93 60 = some (.iload_n 3, []) := rfl
theorem c93_61 : xCD 93 61 = some (.iconst 1, []) := rfl
theorem c93_62 : xCD 93 62 = some (.if_icmp .ge 6, [68]) := rfl
theorem c93_65 : xCD 93 65 = some (.bipush (-4), []) := rfl
theorem c93_67 : xCD 93 67 = some (.ireturn, []) := rfl
theorem c93_68 : xCD 93 68 = some (.iload_n 1, []) := rfl
theorem c93_69 : xCD 93 69 = some (.ifCond .ne 7, [76]) := rfl
theorem c93_72 : xCD 93 72 = some (.iload_n 2, []) := rfl
theorem c93_73 : xCD 93 73 = some (.goto 5, [78]) := rfl
theorem c93_76 : xCD 93 76 = some (.bipush 10, []) := rfl
theorem c93_78 : xCD 93 78 = some (.iload_n 3, []) := rfl
theorem c93_79 : xCD 93 79 = some (.idiv, []) := rfl
theorem c93_80 : xCD 93 80 = some (.ireturn, []) := rfl
theorem c94_0 : xCD 94 0 = some (.iload_n 1, []) := rfl
theorem c94_1 : xCD 94 1 = some (.istore_n 2, []) := rfl
theorem c94_2 : xCD 94 2 = some (.iload_n 2, []) := rfl
theorem c94_3 : xCD 94 3 = some (.iconst 1, []) := rfl
theorem c94_4 : xCD 94 4 = some (.if_icmp .le 23, [27]) := rfl
theorem c94_7 : xCD 94 7 = some (.iload_n 0, []) := rfl
theorem c94_8 : xCD 94 8 = some (.iload_n 2, []) := rfl
theorem c94_9 : xCD 94 9 = some (.irem, []) := rfl
theorem c94_10 : xCD 94 10 = some (.ifCond .ne 11, [21]) := rfl
theorem c94_13 : xCD 94 13 = some (.iload_n 1, []) := rfl
theorem c94_14 : xCD 94 14 = some (.iload_n 2, []) := rfl
theorem c94_15 : xCD 94 15 = some (.irem, []) := rfl
theorem c94_16 : xCD 94 16 = some (.ifCond .ne 5, [21]) := rfl
theorem c94_19 : xCD 94 19 = some (.iload_n 2, []) := rfl
theorem c94_20 : xCD 94 20 = some (.ireturn, []) := rfl
theorem c94_21 : xCD 94 21 = some (.iinc 2 (-1), []) := rfl
theorem c94_24 : xCD 94 24 = some (.goto (-22), [2]) := rfl
theorem c94_27 : xCD 94 27 = some (.iconst 1, []) := rfl
theorem c94_28 : xCD 94 28 = some (.ireturn, []) := rfl
theorem c95_0 : xCD 95 0 = some (.iload_n 1, []) := rfl
theorem c95_1 : xCD 95 1 = some (.ifCond .lt 30, [31]) := rfl
theorem c95_4 : xCD 95 4 = some (.iload_n 1, []) := rfl
theorem c95_5 : xCD 95 5 = some (.sipush 9999, []) := rfl
theorem c95_8 : xCD 95 8 = some (.if_icmp .gt 23, [31]) := rfl
theorem c95_11 : xCD 95 11 = some (.iload_n 2, []) := rfl
theorem c95_12 : xCD 95 12 = some (.iconst 1, []) := rfl
theorem c95_13 : xCD 95 13 = some (.if_icmp .lt 18, [31]) := rfl
theorem c95_16 : xCD 95 16 = some (.iload_n 2, []) := rfl
theorem c95_17 : xCD 95 17 = some (.bipush 40, []) := rfl
theorem c95_19 : xCD 95 19 = some (.if_icmp .gt 12, [31]) := rfl
theorem c95_22 : xCD 95 22 = some (.iload_n 3, []) := rfl
theorem c95_23 : xCD 95 23 = some (.ifCond .lt 8, [31]) := rfl
theorem c95_26 : xCD 95 26 = some (.iload_n 3, []) := rfl
theorem c95_27 : xCD 95 27 = some (.iconst 1, []) := rfl
theorem c95_28 : xCD 95 28 = some (.if_icmp .le 5, [33]) := rfl
theorem c95_31 : xCD 95 31 = some (.iconst (-1), []) := rfl
theorem c95_32 : xCD 95 32 = some (.ireturn, []) := rfl
theorem c95_33 : xCD 95 33 = some (.aload_n 0, []) := rfl
theorem c95_34 : xCD 95 34 = some (.invokevirtual 106, [42, 0, 0, 216, 218, 61, 217, 219]) := rfl
theorem c95_37 : xCD 95 37 = some (.iconst 0, []) := rfl
theorem c95_38 : xCD 95 38 = some (.istore 4, []) := rfl
theorem c95_40 : xCD 95 40 = some (.iconst 0, []) := rfl
theorem c95_41 : xCD 95 41 = some (.istore 5, []) := rfl
theorem c95_43 : xCD 95 43 = some (.iconst 0, []) := rfl
theorem c95_44 : xCD 95 44 = some (.istore 6, []) := rfl
theorem c95_46 : xCD 95 46 = some (.iload 6, []) := rfl
theorem c95_48 : xCD 95 48 = some (.iload_n 2, []) := rfl
theorem c95_49 : xCD 95 49 = some (.if_icmp .ge 50, [99]) := rfl
theorem c95_52 : xCD 95 52 = some (.aload_n 0, []) := rfl
theorem c95_53 : xCD 95 53 = some (.iload_n 1, []) := rfl
theorem c95_54 : xCD 95 54 = some (.iload 6, []) := rfl
theorem c95_56 : xCD 95 56 = some (.invokestatic 216, [96, 2, 0, 624, 626, 61, 625]) := rfl
theorem c95_59 : xCD 95 59 = some (.invokevirtual 219, [97, 1, 0, 627, 629, 61, 628, 630]) := rfl
theorem c95_62 : xCD 95 62 = some (.aload_n 0, []) := rfl
theorem c95_63 : xCD 95 63 = some (.getfield 48, [0, 6, 35]) := rfl
theorem c95_66 : xCD 95 66 = some (.invokevirtual 123, [51, 0, 0, 257, 259, 31, 258, 260]) := rfl
theorem c95_69 : xCD 95 69 = some (.istore 7, []) := rfl
theorem c95_71 : xCD 95 71 = some (.iload 7, []) := rfl
theorem c95_73 : xCD 95 73 = some (.aload_n 0, []) := rfl
theorem c95_74 : xCD 95 74 = some (.getfield 19, [0, 1, 14]) := rfl
theorem c95_77 : xCD 95 77 = some (.getfield 126, [2, 2, 261]) := rfl
theorem c95_80 : xCD 95 80 = some (.if_icmp .gt 6, [86]) := rfl
theorem c95_83 : xCD 95 83 = some (.iinc 4 1, []) := rfl
theorem c95_86 : xCD 95 86 = some (.iload 5, []) := rfl
theorem c95_88 : xCD 95 88 = some (.iload 7, []) := rfl
theorem c95_90 : xCD 95 90 = some (.iadd, []) := rfl
theorem c95_91 : xCD 95 91 = some (.istore 5, []) := rfl
theorem c95_93 : xCD 95 93 = some (.iinc 6 1, []) := rfl
theorem c95_96 : xCD 95 96 = some (.goto (-50), [46]) := rfl
theorem c95_99 : xCD 95 99 = some (.iload_n 3, []) := rfl
theorem c95_100 : xCD 95 100 = some (.ifCond .ne 8, [108]) := rfl
theorem c95_103 : xCD 95 103 = some (.iload 4, []) := rfl
theorem c95_105 : xCD 95 105 = some (.goto 5, [110]) := rfl
theorem c95_108 : xCD 95 108 = some (.iload 5, []) := rfl
theorem c95_110 : xCD 95 110 = some (.ireturn, []) := rfl
theorem c96_0 : xCD 96 0 = some (.ldc2_w 236, [7919, 631]) := rfl
theorem c96_3 : xCD 96 3 = some (.iload_n 0, []) := rfl
theorem c96_4 : xCD 96 4 = some (.i2l, []) := rfl
theorem c96_5 : xCD 96 5 = some (.lmul, []) := rfl
theorem c96_6 : xCD 96 6 = some (.ldc2_w 238, [6151, 632]) := rfl
theorem c96_9 : xCD 96 9 = some (.iload_n 1, []) := rfl
theorem c96_10 : xCD 96 10 = some (.i2l, []) := rfl
theorem c96_11 : xCD 96 11 = some (.lmul, []) := rfl
theorem c96_12 : xCD 96 12 = some (.ladd, []) := rfl
theorem c96_13 : xCD 96 13 = some (.lconst 1, []) := rfl
theorem c96_14 : xCD 96 14 = some (.ladd, []) := rfl
theorem c96_15 : xCD 96 15 = some (.lstore_n 2, []) := rfl
theorem c96_16 : xCD 96 16 = some (.lload_n 2, []) := rfl
theorem c96_17 : xCD 96 17 = some (.lload_n 2, []) := rfl
theorem c96_18 : xCD 96 18 = some (.lmul, []) := rfl
theorem c96_19 : xCD 96 19 = some (.ldc2_w 240, [65521, 633]) := rfl
theorem c96_22 : xCD 96 22 = some (.lrem, []) := rfl
theorem c96_23 : xCD 96 23 = some (.ldc2_w 242, [2, 634]) := rfl
theorem c96_26 : xCD 96 26 = some (.ldiv, []) := rfl
theorem c96_27 : xCD 96 27 = some (.l2i, []) := rfl
theorem c96_28 : xCD 96 28 = some (.ireturn, []) := rfl
theorem c97_0 : xCD 97 0 = some (.aload_n 0, []) := rfl
theorem c97_1 : xCD 97 1 = some (.getfield 19, [0, 1, 14]) := rfl
theorem c97_4 : xCD 97 4 = some (.invokevirtual 192, [36, 0, 0, 157, 159, 11, 158, 160]) := rfl
theorem c97_7 : xCD 97 7 = some (.istore_n 2, []) := rfl
theorem c97_8 : xCD 97 8 = some (.iload_n 2, []) := rfl
theorem c97_9 : xCD 97 9 = some (.iconst 1, []) := rfl
theorem c97_10 : xCD 97 10 = some (.if_icmp .ge 4, [14]) := rfl
theorem c97_13 : xCD 97 13 = some (.return_, []) := rfl
theorem c97_14 : xCD 97 14 = some (.iload_n 1, []) := rfl
theorem c97_15 : xCD 97 15 = some (.iload_n 2, []) := rfl
theorem c97_16 : xCD 97 16 = some (.irem, []) := rfl
theorem c97_17 : xCD 97 17 = some (.istore_n 3, []) := rfl
theorem c97_18 : xCD 97 18 = some (.iload_n 1, []) := rfl
theorem c97_19 : xCD 97 19 = some (.bipush 8, []) := rfl
theorem c97_21 : xCD 97 21 = some (.idiv, []) := rfl
theorem c97_22 : xCD 97 22 = some (.bipush 8, []) := rfl
theorem c97_24 : xCD 97 24 = some (.irem, []) := rfl
theorem c97_25 : xCD 97 25 = some (.istore 4, []) := rfl
theorem c97_27 : xCD 97 27 = some (.aload_n 0, []) := rfl
theorem c97_28 : xCD 97 28 = some (.getfield 19, [0, 1, 14]) := rfl
theorem c97_31 : xCD 97 31 = some (.iload_n 3, []) := rfl
theorem c97_32 : xCD 97 32 = some (.invokevirtual 96, [30, 1, 0, 141, 143, 11, 142, 144]) := rfl
theorem c97_35 : xCD 97 35 = some (.ifCond .eq 28, [63]) := rfl
theorem c97_38 : xCD 97 38 = some (.aload_n 0, []) := rfl
theorem c97_39 : xCD 97 39 = some (.getfield 40, [0, 5, 28]) := rfl
theorem c97_42 : xCD 97 42 = some (.getfield 103, [3, 0, 215]) := rfl
theorem c97_45 : xCD 97 45 = some (.iload_n 3, []) := rfl
theorem c97_46 : xCD 97 46 = some (.iaload, []) := rfl
theorem c97_47 : xCD 97 47 = some (.iload 4, []) := rfl
theorem c97_49 : xCD 97 49 = some (.if_icmp .eq 14, [63]) := rfl
theorem c97_52 : xCD 97 52 = some (.aload_n 0, []) := rfl
theorem c97_53 : xCD 97 53 = some (.getfield 40, [0, 5, 28]) := rfl
theorem c97_56 : xCD 97 56 = some (.iload_n 3, []) := rfl
theorem c97_57 : xCD 97 57 = some (.iload 4, []) := rfl
theorem c97_59 : xCD 97 59 = some (.iconst 0, []) := rfl
theorem c97_60 : xCD 97 60 = some (.invokevirtual 140, [31, 3, 0, 284, 211, 17, 210, 212]) := rfl
theorem c97_63 : xCD 97 63 = some (.aload_n 0, []) := rfl
theorem c97_64 : xCD 97 64 = some (.getfield 40, [0, 5, 28]) := rfl
theorem c97_67 : xCD 97 67 = some (.iconst 1, []) := rfl
theorem c97_68 : xCD 97 68 = some (.invokevirtual 156, [65, 1, 0, 292, 294, 17, 293, 295]) := rfl
theorem c97_71 : xCD 97 71 = some (.aload_n 0, []) := rfl
theorem c97_72 : xCD 97 72 = some (.getfield 40, [0, 5, 28]) := rfl
theorem c97_75 : xCD 97 75 = some (.iload_n 1, []) := rfl
theorem c97_76 : xCD 97 76 = some (.bipush 64, []) := rfl
theorem c97_78 : xCD 97 78 = some (.idiv, []) := rfl
theorem c97_79 : xCD 97 79 = some (.iconst 4, []) := rfl
theorem c97_80 : xCD 97 80 = some (.irem, []) := rfl
theorem c97_81 : xCD 97 81 = some (.putfield 150, [3, 3, 291]) := rfl
theorem c97_84 : xCD 97 84 = some (.return_, []) := rfl
theorem c98_0 : xCD 98 0 = some (.aload_n 0, []) := rfl
theorem c98_1 : xCD 98 1 = some (.getfield 37, [0, 4, 27]) := rfl
theorem c98_4 : xCD 98 4 = some (.getfield 167, [4, 2, 301]) := rfl
theorem c98_7 : xCD 98 7 = some (.iconst 2, []) := rfl
theorem c98_8 : xCD 98 8 = some (.if_icmp .lt 6, [14]) := rfl
theorem c98_11 : xCD 98 11 = some (.bipush (-3), []) := rfl
theorem c98_13 : xCD 98 13 = some (.ireturn, []) := rfl
theorem c98_14 : xCD 98 14 = some (.aload_n 0, []) := rfl
theorem c98_15 : xCD 98 15 = some (.getfield 37, [0, 4, 27]) := rfl
theorem c98_18 : xCD 98 18 = some (.aload_n 0, []) := rfl
theorem c98_19 : xCD 98 19 = some (.getfield 26, [0, 2, 20]) := rfl
theorem c98_22 : xCD 98 22 = some (.invokevirtual 136, [57, 1, 0, 280, 282, 23, 281, 283]) := rfl
theorem c98_25 : xCD 98 25 = some (.aload_n 0, []) := rfl
theorem c98_26 : xCD 98 26 = some (.getfield 37, [0, 4, 27]) := rfl
theorem c98_29 : xCD 98 29 = some (.getfield 167, [4, 2, 301]) := rfl
theorem c98_32 : xCD 98 32 = some (.ireturn, []) := rfl
theorem c99_0 : xCD 99 0 = some (.aload_n 0, []) := rfl
theorem c99_1 : xCD 99 1 = some (.getfield 37, [0, 4, 27]) := rfl
theorem c99_4 : xCD 99 4 = some (.aload_n 0, []) := rfl
theorem c99_5 : xCD 99 5 = some (.getfield 26, [0, 2, 20]) := rfl
theorem c99_8 : xCD 99 8 = some (.invokevirtual 163, [67, 1, 0, 297, 299, 23, 298, 300]) := rfl
theorem c99_11 : xCD 99 11 = some (.ifCond .ne 6, [17]) := rfl
theorem c99_14 : xCD 99 14 = some (.bipush (-2), []) := rfl
theorem c99_16 : xCD 99 16 = some (.ireturn, []) := rfl
theorem c99_17 : xCD 99 17 = some (.aload_n 0, []) := rfl
theorem c99_18 : xCD 99 18 = some (.getfield 33, [0, 3, 26]) := rfl
theorem c99_21 : xCD 99 21 = some (.invokevirtual 222, [35, 0, 0, 153, 155, 23, 154, 156]) := rfl
theorem c99_24 : xCD 99 24 = some (.aload_n 0, []) := rfl
theorem c99_25 : xCD 99 25 = some (.getfield 37, [0, 4, 27]) := rfl
theorem c99_28 : xCD 99 28 = some (.getfield 167, [4, 2, 301]) := rfl
theorem c99_31 : xCD 99 31 = some (.ireturn, []) := rfl
theorem c100_0 : xCD 100 0 = some (.iload_n 1, []) := rfl
theorem c100_1 : xCD 100 1 = some (.tableswitch 144 0 10 #[59, 67, 75, 83, 91, 99, 107, 115, 120, 128, 136], [145, 60, 68, 76, 84, 92, 100, 108, 116, 121, 129, 137]) := rfl
theorem c100_60 : xCD 100 60 = some (.aload_n 0, []) := rfl
theorem c100_61 : xCD 100 61 = some (.getfield 19, [0, 1, 14]) := rfl
theorem c100_64 : xCD 100 64 = some (.invokevirtual 192, [36, 0, 0, 157, 159, 11, 158, 160]) := rfl
theorem c100_67 : xCD 100 67 = some (.ireturn, []) := rfl
theorem c100_68 : xCD 100 68 = some (.aload_n 0, []) := rfl
theorem c100_69 : xCD 100 69 = some (.getfield 19, [0, 1, 14]) := rfl
theorem c100_72 : xCD 100 72 = some (.getfield 189, [2, 0, 354]) := rfl
theorem c100_75 : xCD 100 75 = some (.ireturn, []) := rfl
theorem c100_76 : xCD 100 76 = some (.aload_n 0, []) := rfl
theorem c100_77 : xCD 100 77 = some (.getfield 26, [0, 2, 20]) := rfl
theorem c100_80 : xCD 100 80 = some (.invokevirtual 225, [101, 0, 0, 635, 637, 17, 636, 638]) := rfl
theorem c100_83 : xCD 100 83 = some (.ireturn, []) := rfl
theorem c100_84 : xCD 100 84 = some (.aload_n 0, []) := rfl
theorem c100_85 : xCD 100 85 = some (.getfield 26, [0, 2, 20]) := rfl
theorem c100_88 : xCD 100 88 = some (.getfield 160, [3, 5, 296]) := rfl
theorem c100_91 : xCD 100 91 = some (.ireturn, []) := rfl
theorem c100_92 : xCD 100 92 = some (.aload_n 0, []) := rfl
theorem c100_93 : xCD 100 93 = some (.getfield 26, [0, 2, 20]) := rfl
theorem c100_96 : xCD 100 96 = some (.getfield 150, [3, 3, 291]) := rfl
theorem c100_99 : xCD 100 99 = some (.ireturn, []) := rfl
theorem c100_100 : xCD 100 100 = some (.aload_n 0, []) := rfl
theorem c100_101 : xCD 100 101 = some (.getfield 26, [0, 2, 20]) := rfl
theorem c100_104 : xCD 100 104 = some (.getfield 153, [3, 4, 140]) := rfl
theorem c100_107 : xCD 100 107 = some (.ireturn, []) := rfl
theorem c100_108 : xCD 100 108 = some (.aload_n 0, []) := rfl
theorem c100_109 : xCD 100 109 = some (.getfield 19, [0, 1, 14]) := rfl
theorem c100_112 : xCD 100 112 = some (.getfield 126, [2, 2, 261]) := rfl
theorem c100_115 : xCD 100 115 = some (.ireturn, []) := rfl
theorem c100_116 : xCD 100 116 = some (.aload_n 0, []) := rfl
theorem c100_117 : xCD 100 117 = some (.getfield 68, [0, 10, 46]) := rfl
theorem c100_120 : xCD 100 120 = some (.ireturn, []) := rfl
theorem c100_121 : xCD 100 121 = some (.aload_n 0, []) := rfl
theorem c100_122 : xCD 100 122 = some (.getfield 33, [0, 3, 26]) := rfl
theorem c100_125 : xCD 100 125 = some (.getfield 167, [4, 2, 301]) := rfl
theorem c100_128 : xCD 100 128 = some (.ireturn, []) := rfl
theorem c100_129 : xCD 100 129 = some (.aload_n 0, []) := rfl
theorem c100_130 : xCD 100 130 = some (.getfield 37, [0, 4, 27]) := rfl
theorem c100_133 : xCD 100 133 = some (.getfield 167, [4, 2, 301]) := rfl
theorem c100_136 : xCD 100 136 = some (.ireturn, []) := rfl
theorem c100_137 : xCD 100 137 = some (.aload_n 0, []) := rfl
theorem c100_138 : xCD 100 138 = some (.getfield 10, [0, 0, 8]) := rfl
theorem c100_141 : xCD 100 141 = some (.getfield 91, [1, 1, 65]) := rfl
theorem c100_144 : xCD 100 144 = some (.ireturn, []) := rfl
theorem c100_145 : xCD 100 145 = some (.iconst (-1), []) := rfl
theorem c100_146 : xCD 100 146 = some (.ireturn, []) := rfl
theorem c101_0 : xCD 101 0 = some (.iconst 0, []) := rfl
theorem c101_1 : xCD 101 1 = some (.istore_n 1, []) := rfl
theorem c101_2 : xCD 101 2 = some (.iconst 0, []) := rfl
theorem c101_3 : xCD 101 3 = some (.istore_n 2, []) := rfl
theorem c101_4 : xCD 101 4 = some (.iload_n 2, []) := rfl
theorem c101_5 : xCD 101 5 = some (.bipush 36, []) := rfl
theorem c101_7 : xCD 101 7 = some (.if_icmp .ge 21, [28]) := rfl
theorem c101_10 : xCD 101 10 = some (.aload_n 0, []) := rfl
theorem c101_11 : xCD 101 11 = some (.getfield 18, [3, 2, 84]) := rfl
theorem c101_14 : xCD 101 14 = some (.iload_n 2, []) := rfl
theorem c101_15 : xCD 101 15 = some (.baload, []) := rfl
theorem c101_16 : xCD 101 16 = some (.ifCond .eq 6, [22]) := rfl
theorem c101_19 : xCD 101 19 = some (.iinc 1 1, []) := rfl
theorem c101_22 : xCD 101 22 = some (.iinc 2 1, []) := rfl
theorem c101_25 : xCD 101 25 = some (.goto (-21), [4]) := rfl
theorem c101_28 : xCD 101 28 = some (.iload_n 1, []) := rfl
theorem c101_29 : xCD 101 29 = some (.ireturn, []) := rfl
section
variable {X : Nat × (Nat → Int32)} {C : Nat → List Value → xHp → Option Value → xHp → Prop} {Q : Option Value → xHp → Prop} {D : zD} {ct : zM}
-- ('PaintedTown', 'mend', '(I)I')
theorem b56_0 {x1 : Int32} {l2 : Value} {D1 : zD} {ct1 : zM} {v1 : Int32} (he : C 30 [.ref 11, .int x1] (mk D ct) (some (.int v1)) (mk D1 ct1)) (kk : RUN X C 56 Q 8 [.ref 0, .int x1, l2] [.int v1] (mk D1 ct1)) : RUN X C 56 Q 0 [.ref 0, .int x1, l2] [] (mk D ct) :=
  s_aload_n c56_0 rfl <|
  s_getf (ct := ct) c56_1 rfl (by decide) rfl <|
  s_iload_n c56_4 rfl <|
  s_callv (args := [.int x1]) (r := []) c56_5 rfl rfl (Nat.le_of_ble_eq_true rfl) rfl ⟨rfl, by decide⟩ he kk
theorem b56_8 {x1 : Int32} {l2 : Value} {xs0 : Int32} (k1 : xs0 = (nI 0) → RUN X C 56 Q 11 [.ref 0, .int x1, l2] [] (mk D ct)) (k2 : ¬ xs0 = (nI 0) → RUN X C 56 Q 13 [.ref 0, .int x1, l2] [] (mk D ct)) : RUN X C 56 Q 8 [.ref 0, .int x1, l2] [.int xs0] (mk D ct) :=
  s_ifne c56_8 k1 k2
theorem b56_11 {x1 : Int32} {l2 : Value} (hq : Q (some (.int (-1))) (mk D ct)) : RUN X C 56 Q 11 [.ref 0, .int x1, l2] [] (mk D ct) :=
  s_const c56_11 zcI_m1 <|
  s_iret c56_12 (xrtI rfl) hq
theorem b56_13 {x1 : Int32} {l2 : Value} {j21 : Nat} (hx21 : zix x1 j21 36) {j31 : Nat} (hx31 : zix x1 j31 36) (k1 : (ct 15 j31) = (ct 12 j21) → RUN X C 56 Q 36 [.ref 0, .int x1, .int (ct 12 j21)] [] (mk D ct)) (k2 : ¬ (ct 15 j31) = (ct 12 j21) → RUN X C 56 Q 39 [.ref 0, .int x1, .int (ct 12 j21)] [] (mk D ct)) : RUN X C 56 Q 13 [.ref 0, .int x1, l2] [] (mk D ct) :=
  s_aload_n c56_13 rfl <|
  s_getf (ct := ct) c56_14 rfl (by decide) rfl <|
  s_getf (ct := ct) c56_17 rfl (by decide) rfl <|
  s_iload_n c56_20 rfl <|
  s_iald (ct := ct) c56_21 rfl hx21 <|
  s_istore_n c56_22 (Nat.le_of_ble_eq_true rfl) True.intro <|
  s_aload_n c56_23 rfl <|
  s_getf (ct := ct) c56_24 rfl (by decide) rfl <|
  s_getf (ct := ct) c56_27 rfl (by decide) rfl <|
  s_iload_n c56_30 rfl <|
  s_iald (ct := ct) c56_31 rfl hx31 <|
  s_iload_n c56_32 rfl <|
  s_icne c56_33 k1 k2
theorem b56_36 {x1 : Int32} {x2 : Int32} (hq : Q (some (.int (-2))) (mk D ct)) : RUN X C 56 Q 36 [.ref 0, .int x1, .int x2] [] (mk D ct) :=
  s_bipush c56_36 zcB_m2 <|
  s_iret c56_38 (xrtI rfl) hq
theorem b56_39 {x1 : Int32} {x2 : Int32} {D1 : zD} {ct1 : zM} (he : C 57 [.ref 18, .ref 14] (mk D ct) none (mk D1 ct1)) (kk : RUN X C 56 Q 50 [.ref 0, .int x1, .int x2] [] (mk D1 ct1)) : RUN X C 56 Q 39 [.ref 0, .int x1, .int x2] [] (mk D ct) :=
  s_aload_n c56_39 rfl <|
  s_getf (ct := ct) c56_40 rfl (by decide) rfl <|
  s_aload_n c56_43 rfl <|
  s_getf (ct := ct) c56_44 rfl (by decide) rfl <|
  s_callv (args := [.ref 14]) (r := []) c56_47 rfl rfl (Nat.le_of_ble_eq_true rfl) rfl ⟨rfl, by decide⟩ he kk
theorem b56_50 {x1 : Int32} {x2 : Int32} {D1 : zD} {ct1 : zM} (he : C 31 [.ref 14, .int x1, .int x2, .int (nI 0)] (mk D ct) none (mk D1 ct1)) (kk : RUN X C 56 Q 60 [.ref 0, .int x1, .int x2] [] (mk D1 ct1)) : RUN X C 56 Q 50 [.ref 0, .int x1, .int x2] [] (mk D ct) :=
  s_aload_n c56_50 rfl <|
  s_getf (ct := ct) c56_51 rfl (by decide) rfl <|
  s_iload_n c56_54 rfl <|
  s_iload_n c56_55 rfl <|
  s_const c56_56 zcI_0 <|
  s_callv (args := [.int x1, .int x2, .int (nI 0)]) (r := []) c56_57 rfl rfl (Nat.le_of_ble_eq_true rfl) rfl ⟨rfl, by decide⟩ he kk
theorem b56_60 {x1 : Int32} {x2 : Int32} {D1 : zD} {ct1 : zM} {v1 : Int32} (he : C 46 [.int x2] (mk D ct) (some (.int v1)) (mk D1 ct1)) (kk : RUN X C 56 Q 64 [.ref 0, .int x1, .int x2] [.int v1] (mk D1 ct1)) : RUN X C 56 Q 60 [.ref 0, .int x1, .int x2] [] (mk D ct) :=
  s_iload_n c56_60 rfl <|
  s_calls (args := [.int x2]) (r := []) c56_61 rfl rfl (Nat.le_of_ble_eq_true rfl) he kk
theorem b56_64 {x1 : Int32} {x2 : Int32} {xs0 : Int32} (hq : Q (some (.int xs0)) (mk D ct)) : RUN X C 56 Q 64 [.ref 0, .int x1, .int x2] [.int xs0] (mk D ct) :=
  s_iret c56_64 (xrtI rfl) hq
-- ('PaintedTown', 'put', '(II)I')
theorem b58_0 {x1 : Int32} {x2 : Int32} {l3 : Value} {D1 : zD} {ct1 : zM} {v1 : Int32} (he : C 30 [.ref 11, .int x1] (mk D ct) (some (.int v1)) (mk D1 ct1)) (kk : RUN X C 58 Q 8 [.ref 0, .int x1, .int x2, l3] [.int v1] (mk D1 ct1)) : RUN X C 58 Q 0 [.ref 0, .int x1, .int x2, l3] [] (mk D ct) :=
  s_aload_n c58_0 rfl <|
  s_getf (ct := ct) c58_1 rfl (by decide) rfl <|
  s_iload_n c58_4 rfl <|
  s_callv (args := [.int x1]) (r := []) c58_5 rfl rfl (Nat.le_of_ble_eq_true rfl) rfl ⟨rfl, by decide⟩ he kk
theorem b58_8 {x1 : Int32} {x2 : Int32} {l3 : Value} {xs0 : Int32} (k1 : xs0 = (nI 0) → RUN X C 58 Q 21 [.ref 0, .int x1, .int x2, l3] [] (mk D ct)) (k2 : ¬ xs0 = (nI 0) → RUN X C 58 Q 11 [.ref 0, .int x1, .int x2, l3] [] (mk D ct)) : RUN X C 58 Q 8 [.ref 0, .int x1, .int x2, l3] [.int xs0] (mk D ct) :=
  s_ifeq c58_8 k1 k2
theorem b58_11 {x1 : Int32} {x2 : Int32} {l3 : Value} (k1 : x2 < (nI 0) → RUN X C 58 Q 21 [.ref 0, .int x1, .int x2, l3] [] (mk D ct)) (k2 : ¬ x2 < (nI 0) → RUN X C 58 Q 15 [.ref 0, .int x1, .int x2, l3] [] (mk D ct)) : RUN X C 58 Q 11 [.ref 0, .int x1, .int x2, l3] [] (mk D ct) :=
  s_iload_n c58_11 rfl <|
  s_iflt c58_12 k1 k2
theorem b58_15 {x1 : Int32} {x2 : Int32} {l3 : Value} (k1 : x2 < (nI 8) → RUN X C 58 Q 23 [.ref 0, .int x1, .int x2, l3] [] (mk D ct)) (k2 : ¬ x2 < (nI 8) → RUN X C 58 Q 21 [.ref 0, .int x1, .int x2, l3] [] (mk D ct)) : RUN X C 58 Q 15 [.ref 0, .int x1, .int x2, l3] [] (mk D ct) :=
  s_iload_n c58_15 rfl <|
  s_bipush c58_16 zcB_8 <|
  s_iclt c58_18 k1 k2
theorem b58_21 {x1 : Int32} {x2 : Int32} {l3 : Value} (hq : Q (some (.int (-1))) (mk D ct)) : RUN X C 58 Q 21 [.ref 0, .int x1, .int x2, l3] [] (mk D ct) :=
  s_const c58_21 zcI_m1 <|
  s_iret c58_22 (xrtI rfl) hq
theorem b58_23 {x1 : Int32} {x2 : Int32} {l3 : Value} {j31 : Nat} (hx31 : zix x1 j31 36) (k1 : (ct 15 j31) = x2 → RUN X C 58 Q 38 [.ref 0, .int x1, .int x2, .int (ct 15 j31)] [] (mk D ct)) (k2 : ¬ (ct 15 j31) = x2 → RUN X C 58 Q 41 [.ref 0, .int x1, .int x2, .int (ct 15 j31)] [] (mk D ct)) : RUN X C 58 Q 23 [.ref 0, .int x1, .int x2, l3] [] (mk D ct) :=
  s_aload_n c58_23 rfl <|
  s_getf (ct := ct) c58_24 rfl (by decide) rfl <|
  s_getf (ct := ct) c58_27 rfl (by decide) rfl <|
  s_iload_n c58_30 rfl <|
  s_iald (ct := ct) c58_31 rfl hx31 <|
  s_istore_n c58_32 (Nat.le_of_ble_eq_true rfl) True.intro <|
  s_iload_n c58_33 rfl <|
  s_iload_n c58_34 rfl <|
  s_icne c58_35 k1 k2
theorem b58_38 {x1 : Int32} {x2 : Int32} {x3 : Int32} (hq : Q (some (.int (-2))) (mk D ct)) : RUN X C 58 Q 38 [.ref 0, .int x1, .int x2, .int x3] [] (mk D ct) :=
  s_bipush c58_38 zcB_m2 <|
  s_iret c58_40 (xrtI rfl) hq
theorem b58_41 {x1 : Int32} {x2 : Int32} {x3 : Int32} {D1 : zD} {ct1 : zM} (he : C 57 [.ref 18, .ref 14] (mk D ct) none (mk D1 ct1)) (kk : RUN X C 58 Q 52 [.ref 0, .int x1, .int x2, .int x3] [] (mk D1 ct1)) : RUN X C 58 Q 41 [.ref 0, .int x1, .int x2, .int x3] [] (mk D ct) :=
  s_aload_n c58_41 rfl <|
  s_getf (ct := ct) c58_42 rfl (by decide) rfl <|
  s_aload_n c58_45 rfl <|
  s_getf (ct := ct) c58_46 rfl (by decide) rfl <|
  s_callv (args := [.ref 14]) (r := []) c58_49 rfl rfl (Nat.le_of_ble_eq_true rfl) rfl ⟨rfl, by decide⟩ he kk
theorem b58_52 {x1 : Int32} {x2 : Int32} {x3 : Int32} {D1 : zD} {ct1 : zM} (he : C 31 [.ref 14, .int x1, .int x2, .int (nI 0)] (mk D ct) none (mk D1 ct1)) (kk : RUN X C 58 Q 62 [.ref 0, .int x1, .int x2, .int x3] [] (mk D1 ct1)) : RUN X C 58 Q 52 [.ref 0, .int x1, .int x2, .int x3] [] (mk D ct) :=
  s_aload_n c58_52 rfl <|
  s_getf (ct := ct) c58_53 rfl (by decide) rfl <|
  s_iload_n c58_56 rfl <|
  s_iload_n c58_57 rfl <|
  s_const c58_58 zcI_0 <|
  s_callv (args := [.int x1, .int x2, .int (nI 0)]) (r := []) c58_59 rfl rfl (Nat.le_of_ble_eq_true rfl) rfl ⟨rfl, by decide⟩ he kk
theorem b58_62 {x1 : Int32} {x2 : Int32} {x3 : Int32} (hq : Q (some (.int x3)) (mk D ct)) : RUN X C 58 Q 62 [.ref 0, .int x1, .int x2, .int x3] [] (mk D ct) :=
  s_iload_n c58_62 rfl <|
  s_iret c58_63 (xrtI rfl) hq
-- ('PaintedTown', 'lop', '()I')
theorem b59_0 {D1 : zD} {ct1 : zM} (he : C 57 [.ref 18, .ref 14] (mk D ct) none (mk D1 ct1)) (kk : RUN X C 59 Q 11 [.ref 0] [] (mk D1 ct1)) : RUN X C 59 Q 0 [.ref 0] [] (mk D ct) :=
  s_aload_n c59_0 rfl <|
  s_getf (ct := ct) c59_1 rfl (by decide) rfl <|
  s_aload_n c59_4 rfl <|
  s_getf (ct := ct) c59_5 rfl (by decide) rfl <|
  s_callv (args := [.ref 14]) (r := []) c59_8 rfl rfl (Nat.le_of_ble_eq_true rfl) rfl ⟨rfl, by decide⟩ he kk
theorem b59_11 {D1 : zD} {ct1 : zM} {v1 : Int32} (he : C 60 [.ref 14] (mk D ct) (some (.int v1)) (mk D1 ct1)) (kk : RUN X C 59 Q 18 [.ref 0] [.int v1] (mk D1 ct1)) : RUN X C 59 Q 11 [.ref 0] [] (mk D ct) :=
  s_aload_n c59_11 rfl <|
  s_getf (ct := ct) c59_12 rfl (by decide) rfl <|
  s_callv (args := []) (r := []) c59_15 rfl rfl (Nat.le_of_ble_eq_true rfl) rfl ⟨rfl, by decide⟩ he kk
theorem b59_18 {xs0 : Int32} (hq : Q (some (.int xs0)) (mk D ct)) : RUN X C 59 Q 18 [.ref 0] [.int xs0] (mk D ct) :=
  s_iret c59_18 (xrtI rfl) hq
-- ('PaintedTown$Town', 'cutTrees', '()I')
theorem b60_0 {a0 : Nat} (ha0 : zsh D a0 = (3, 0)) {l1 : Value} {l2 : Value} (kk : RUN X C 60 Q 4 [.ref a0, .int (nI 0), .int (nI 0)] [] (mk D ct)) : RUN X C 60 Q 0 [.ref a0, l1, l2] [] (mk D ct) :=
  s_const c60_0 zcI_0 <|
  s_istore_n c60_1 (Nat.le_of_ble_eq_true rfl) True.intro <|
  s_const c60_2 zcI_0 <|
  s_istore_n c60_3 (Nat.le_of_ble_eq_true rfl) True.intro <|
  kk
theorem b60_4 {a0 : Nat} (ha0 : zsh D a0 = (3, 0)) {x1 : Int32} {x2 : Int32} (k1 : (nI 36) ≤ x2 → RUN X C 60 Q 36 [.ref a0, .int x1, .int x2] [] (mk D ct)) (k2 : ¬ (nI 36) ≤ x2 → RUN X C 60 Q 10 [.ref a0, .int x1, .int x2] [] (mk D ct)) : RUN X C 60 Q 4 [.ref a0, .int x1, .int x2] [] (mk D ct) :=
  s_iload_n c60_4 rfl <|
  s_bipush c60_5 zcB_36 <|
  s_icge c60_7 k1 k2
theorem b60_10 {a0 : Nat} (ha0 : zsh D a0 = (3, 0)) {x1 : Int32} {x2 : Int32} {j15 : Nat} (hx15 : zix x2 j15 36) (k1 : (ct (a0 + 2) j15) < (nI 3) → RUN X C 60 Q 23 [.ref a0, .int x1, .int x2] [] (mk D ct)) (k2 : ¬ (ct (a0 + 2) j15) < (nI 3) → RUN X C 60 Q 20 [.ref a0, .int x1, .int x2] [] (mk D ct)) : RUN X C 60 Q 10 [.ref a0, .int x1, .int x2] [] (mk D ct) :=
  s_aload_n c60_10 rfl <|
  s_getf (ct := ct) c60_11 ha0 (by decide) rfl <|
  s_iload_n c60_14 rfl <|
  s_iald (ct := ct) c60_15 (zsh_t2 ha0) hx15 <|
  s_const c60_16 zcI_3 <|
  s_iclt c60_17 k1 k2
theorem b60_20 {a0 : Nat} (ha0 : zsh D a0 = (3, 0)) {x1 : Int32} {x2 : Int32} {j29 : Nat} (hx29 : zix x2 j29 36) (kk : RUN X C 60 Q 4 [.ref a0, .int (x1 + nI 1), .int (x2 + nI 1)] [] (mk D (u2 ct (a0 + 2) j29 (nI 0)))) : RUN X C 60 Q 20 [.ref a0, .int x1, .int x2] [] (mk D ct) :=
  s_iinc c60_20 rfl True.intro zcI_1 <|
  s_aload_n c60_23 rfl <|
  s_getf (ct := ct) c60_24 ha0 (by decide) rfl <|
  s_iload_n c60_27 rfl <|
  s_const c60_28 zcI_0 <|
  s_iast (ct := ct) c60_29 (zsh_t2 ha0) hx29 <|
  s_iinc c60_30 rfl True.intro zcI_1 <|
  s_goto c60_33 <|
  kk
theorem b60_23 {a0 : Nat} (ha0 : zsh D a0 = (3, 0)) {x1 : Int32} {x2 : Int32} {j29 : Nat} (hx29 : zix x2 j29 36) (kk : RUN X C 60 Q 4 [.ref a0, .int x1, .int (x2 + nI 1)] [] (mk D (u2 ct (a0 + 2) j29 (nI 0)))) : RUN X C 60 Q 23 [.ref a0, .int x1, .int x2] [] (mk D ct) :=
  s_aload_n c60_23 rfl <|
  s_getf (ct := ct) c60_24 ha0 (by decide) rfl <|
  s_iload_n c60_27 rfl <|
  s_const c60_28 zcI_0 <|
  s_iast (ct := ct) c60_29 (zsh_t2 ha0) hx29 <|
  s_iinc c60_30 rfl True.intro zcI_1 <|
  s_goto c60_33 <|
  kk
theorem b60_36 {a0 : Nat} (ha0 : zsh D a0 = (3, 0)) {x1 : Int32} {x2 : Int32} (hq : Q (some (.int x1)) (mk D ct)) : RUN X C 60 Q 36 [.ref a0, .int x1, .int x2] [] (mk D ct) :=
  s_iload_n c60_36 rfl <|
  s_iret c60_37 (xrtI rfl) hq
-- ('PaintedTown', 'canvas', '(I)I')
theorem b61_0 {x1 : Int32} {D1 : zD} {ct1 : zM} {v1 : Int32} (he : C 30 [.ref 11, .int x1] (mk D ct) (some (.int v1)) (mk D1 ct1)) (kk : RUN X C 61 Q 8 [.ref 0, .int x1] [.int v1] (mk D1 ct1)) : RUN X C 61 Q 0 [.ref 0, .int x1] [] (mk D ct) :=
  s_aload_n c61_0 rfl <|
  s_getf (ct := ct) c61_1 rfl (by decide) rfl <|
  s_iload_n c61_4 rfl <|
  s_callv (args := [.int x1]) (r := []) c61_5 rfl rfl (Nat.le_of_ble_eq_true rfl) rfl ⟨rfl, by decide⟩ he kk
theorem b61_8 {x1 : Int32} {xs0 : Int32} (k1 : xs0 = (nI 0) → RUN X C 61 Q 11 [.ref 0, .int x1] [] (mk D ct)) (k2 : ¬ xs0 = (nI 0) → RUN X C 61 Q 13 [.ref 0, .int x1] [] (mk D ct)) : RUN X C 61 Q 8 [.ref 0, .int x1] [.int xs0] (mk D ct) :=
  s_ifne c61_8 k1 k2
theorem b61_11 {x1 : Int32} (hq : Q (some (.int (-1))) (mk D ct)) : RUN X C 61 Q 11 [.ref 0, .int x1] [] (mk D ct) :=
  s_const c61_11 zcI_m1 <|
  s_iret c61_12 (xrtI rfl) hq
theorem b61_13 {x1 : Int32} {D1 : zD} {ct1 : zM} (he : C 57 [.ref 18, .ref 14] (mk D ct) none (mk D1 ct1)) (kk : RUN X C 61 Q 24 [.ref 0, .int x1] [] (mk D1 ct1)) : RUN X C 61 Q 13 [.ref 0, .int x1] [] (mk D ct) :=
  s_aload_n c61_13 rfl <|
  s_getf (ct := ct) c61_14 rfl (by decide) rfl <|
  s_aload_n c61_17 rfl <|
  s_getf (ct := ct) c61_18 rfl (by decide) rfl <|
  s_callv (args := [.ref 14]) (r := []) c61_21 rfl rfl (Nat.le_of_ble_eq_true rfl) rfl ⟨rfl, by decide⟩ he kk
theorem b61_24 {x1 : Int32} {j40 : Nat} (hx40 : zix x1 j40 36) (k1 : (ct 17 j40) = (nI 0) → RUN X C 61 Q 44 [.ref 0, .int x1] [.int x1, .ref 17] (mk D ct)) (k2 : ¬ (ct 17 j40) = (nI 0) → RUN X C 61 Q 48 [.ref 0, .int x1] [.int x1, .ref 17] (mk D ct)) : RUN X C 61 Q 24 [.ref 0, .int x1] [] (mk D ct) :=
  s_aload_n c61_24 rfl <|
  s_getf (ct := ct) c61_25 rfl (by decide) rfl <|
  s_getf (ct := ct) c61_28 rfl (by decide) rfl <|
  s_iload_n c61_31 rfl <|
  s_aload_n c61_32 rfl <|
  s_getf (ct := ct) c61_33 rfl (by decide) rfl <|
  s_getf (ct := ct) c61_36 rfl (by decide) rfl <|
  s_iload_n c61_39 rfl <|
  s_bald (ct := ct) c61_40 rfl hx40 <|
  s_ifne c61_41 k1 k2
theorem b61_44 {x1 : Int32} {xs1 : Int32} {D1 : zD} {ct1 : zM} {v1 : Int32} {j49 : Nat} (hx49 : zix xs1 j49 36) {j58 : Nat} (hx58 : zix x1 j58 36) (he : C 55 [.int ((u2 ct 17 j49 (nI 1)) 17 j58)] (mk D (u2 ct 17 j49 (nI 1))) (some (.int v1)) (mk D1 ct1)) (kk : RUN X C 61 Q 62 [.ref 0, .int x1] [.int v1] (mk D1 ct1)) : RUN X C 61 Q 44 [.ref 0, .int x1] [.int xs1, .ref 17] (mk D ct) :=
  s_const c61_44 zcI_1 <|
  s_goto c61_45 <|
  s_bast (ct := ct) c61_49 rfl hx49 (Or.inr rfl) <|
  s_aload_n c61_50 rfl <|
  s_getf (ct := (u2 ct 17 j49 (nI 1))) c61_51 rfl (by decide) rfl <|
  s_getf (ct := (u2 ct 17 j49 (nI 1))) c61_54 rfl (by decide) rfl <|
  s_iload_n c61_57 rfl <|
  s_bald (ct := (u2 ct 17 j49 (nI 1))) c61_58 rfl hx58 <|
  s_calls (args := [.int ((u2 ct 17 j49 (nI 1)) 17 j58)]) (r := []) c61_59 rfl rfl (Nat.le_of_ble_eq_true rfl) he kk
theorem b61_48 {x1 : Int32} {xs1 : Int32} {D1 : zD} {ct1 : zM} {v1 : Int32} {j49 : Nat} (hx49 : zix xs1 j49 36) {j58 : Nat} (hx58 : zix x1 j58 36) (he : C 55 [.int ((u2 ct 17 j49 (nI 0)) 17 j58)] (mk D (u2 ct 17 j49 (nI 0))) (some (.int v1)) (mk D1 ct1)) (kk : RUN X C 61 Q 62 [.ref 0, .int x1] [.int v1] (mk D1 ct1)) : RUN X C 61 Q 48 [.ref 0, .int x1] [.int xs1, .ref 17] (mk D ct) :=
  s_const c61_48 zcI_0 <|
  s_bast (ct := ct) c61_49 rfl hx49 (Or.inl rfl) <|
  s_aload_n c61_50 rfl <|
  s_getf (ct := (u2 ct 17 j49 (nI 0))) c61_51 rfl (by decide) rfl <|
  s_getf (ct := (u2 ct 17 j49 (nI 0))) c61_54 rfl (by decide) rfl <|
  s_iload_n c61_57 rfl <|
  s_bald (ct := (u2 ct 17 j49 (nI 0))) c61_58 rfl hx58 <|
  s_calls (args := [.int ((u2 ct 17 j49 (nI 0)) 17 j58)]) (r := []) c61_59 rfl rfl (Nat.le_of_ble_eq_true rfl) he kk
theorem b61_62 {x1 : Int32} {xs0 : Int32} (hq : Q (some (.int xs0)) (mk D ct)) : RUN X C 61 Q 62 [.ref 0, .int x1] [.int xs0] (mk D ct) :=
  s_iret c61_62 (xrtI rfl) hq
-- ('PaintedTown', 'wind', '(I)I')
theorem b62_0 {x1 : Int32} {l2 : Value} (k1 : x1 < (nI 0) → RUN X C 62 Q 9 [.ref 0, .int x1, l2] [] (mk D ct)) (k2 : ¬ x1 < (nI 0) → RUN X C 62 Q 4 [.ref 0, .int x1, l2] [] (mk D ct)) : RUN X C 62 Q 0 [.ref 0, .int x1, l2] [] (mk D ct) :=
  s_iload_n c62_0 rfl <|
  s_iflt c62_1 k1 k2
theorem b62_4 {x1 : Int32} {l2 : Value} (k1 : x1 < (nI 4) → RUN X C 62 Q 11 [.ref 0, .int x1, l2] [] (mk D ct)) (k2 : ¬ x1 < (nI 4) → RUN X C 62 Q 9 [.ref 0, .int x1, l2] [] (mk D ct)) : RUN X C 62 Q 4 [.ref 0, .int x1, l2] [] (mk D ct) :=
  s_iload_n c62_4 rfl <|
  s_const c62_5 zcI_4 <|
  s_iclt c62_6 k1 k2
theorem b62_9 {x1 : Int32} {l2 : Value} (hq : Q (some (.int (-1))) (mk D ct)) : RUN X C 62 Q 9 [.ref 0, .int x1, l2] [] (mk D ct) :=
  s_const c62_9 zcI_m1 <|
  s_iret c62_10 (xrtI rfl) hq
theorem b62_11 {x1 : Int32} {l2 : Value} {D1 : zD} {ct1 : zM} (he : C 57 [.ref 18, .ref 14] (mk D ct) none (mk D1 ct1)) (kk : RUN X C 62 Q 22 [.ref 0, .int x1, l2] [] (mk D1 ct1)) : RUN X C 62 Q 11 [.ref 0, .int x1, l2] [] (mk D ct) :=
  s_aload_n c62_11 rfl <|
  s_getf (ct := ct) c62_12 rfl (by decide) rfl <|
  s_aload_n c62_15 rfl <|
  s_getf (ct := ct) c62_16 rfl (by decide) rfl <|
  s_callv (args := [.ref 14]) (r := []) c62_19 rfl rfl (Nat.le_of_ble_eq_true rfl) rfl ⟨rfl, by decide⟩ he kk
theorem b62_22 {x1 : Int32} {l2 : Value} (hq : Q (some (.int (ct 14 3))) (mk D (u2 ct 14 3 x1))) : RUN X C 62 Q 22 [.ref 0, .int x1, l2] [] (mk D ct) :=
  s_aload_n c62_22 rfl <|
  s_getf (ct := ct) c62_23 rfl (by decide) rfl <|
  s_getf (ct := ct) c62_26 rfl (by decide) rfl <|
  s_istore_n c62_29 (Nat.le_of_ble_eq_true rfl) True.intro <|
  s_aload_n c62_30 rfl <|
  s_getf (ct := ct) c62_31 rfl (by decide) rfl <|
  s_iload_n c62_34 rfl <|
  s_putf (ct := ct) c62_35 rfl (by decide) zint_3_3 xfit_3_3 <|
  s_iload_n c62_38 rfl <|
  s_iret c62_39 (xrtI rfl) hq
-- ('PaintedTown', 'eye', '(I)I')
theorem b63_0 {x1 : Int32} {l2 : Value} {D1 : zD} {ct1 : zM} {v1 : Int32} (he : C 30 [.ref 11, .int x1] (mk D ct) (some (.int v1)) (mk D1 ct1)) (kk : RUN X C 63 Q 8 [.ref 0, .int x1, l2] [.int v1] (mk D1 ct1)) : RUN X C 63 Q 0 [.ref 0, .int x1, l2] [] (mk D ct) :=
  s_aload_n c63_0 rfl <|
  s_getf (ct := ct) c63_1 rfl (by decide) rfl <|
  s_iload_n c63_4 rfl <|
  s_callv (args := [.int x1]) (r := []) c63_5 rfl rfl (Nat.le_of_ble_eq_true rfl) rfl ⟨rfl, by decide⟩ he kk
theorem b63_8 {x1 : Int32} {l2 : Value} {xs0 : Int32} (k1 : xs0 = (nI 0) → RUN X C 63 Q 11 [.ref 0, .int x1, l2] [] (mk D ct)) (k2 : ¬ xs0 = (nI 0) → RUN X C 63 Q 13 [.ref 0, .int x1, l2] [] (mk D ct)) : RUN X C 63 Q 8 [.ref 0, .int x1, l2] [.int xs0] (mk D ct) :=
  s_ifne c63_8 k1 k2
theorem b63_11 {x1 : Int32} {l2 : Value} (hq : Q (some (.int (-1))) (mk D ct)) : RUN X C 63 Q 11 [.ref 0, .int x1, l2] [] (mk D ct) :=
  s_const c63_11 zcI_m1 <|
  s_iret c63_12 (xrtI rfl) hq
theorem b63_13 {x1 : Int32} {l2 : Value} {D1 : zD} {ct1 : zM} (he : C 57 [.ref 18, .ref 14] (mk D ct) none (mk D1 ct1)) (kk : RUN X C 63 Q 24 [.ref 0, .int x1, l2] [] (mk D1 ct1)) : RUN X C 63 Q 13 [.ref 0, .int x1, l2] [] (mk D ct) :=
  s_aload_n c63_13 rfl <|
  s_getf (ct := ct) c63_14 rfl (by decide) rfl <|
  s_aload_n c63_17 rfl <|
  s_getf (ct := ct) c63_18 rfl (by decide) rfl <|
  s_callv (args := [.ref 14]) (r := []) c63_21 rfl rfl (Nat.le_of_ble_eq_true rfl) rfl ⟨rfl, by decide⟩ he kk
theorem b63_24 {x1 : Int32} {l2 : Value} (hq : Q (some (.int (ct 14 4))) (mk D (u2 ct 14 4 x1))) : RUN X C 63 Q 24 [.ref 0, .int x1, l2] [] (mk D ct) :=
  s_aload_n c63_24 rfl <|
  s_getf (ct := ct) c63_25 rfl (by decide) rfl <|
  s_getf (ct := ct) c63_28 rfl (by decide) rfl <|
  s_istore_n c63_31 (Nat.le_of_ble_eq_true rfl) True.intro <|
  s_aload_n c63_32 rfl <|
  s_getf (ct := ct) c63_33 rfl (by decide) rfl <|
  s_iload_n c63_36 rfl <|
  s_putf (ct := ct) c63_37 rfl (by decide) zint_3_4 xfit_3_4 <|
  s_iload_n c63_40 rfl <|
  s_iret c63_41 (xrtI rfl) hq
-- ('PaintedTown', 'pass', '(I)I')
theorem b64_0 {x1 : Int32} (k1 : x1 < (nI 1) → RUN X C 64 Q 11 [.ref 0, .int x1] [] (mk D ct)) (k2 : ¬ x1 < (nI 1) → RUN X C 64 Q 5 [.ref 0, .int x1] [] (mk D ct)) : RUN X C 64 Q 0 [.ref 0, .int x1] [] (mk D ct) :=
  s_iload_n c64_0 rfl <|
  s_const c64_1 zcI_1 <|
  s_iclt c64_2 k1 k2
theorem b64_5 {x1 : Int32} (k1 : x1 ≤ (nI 20) → RUN X C 64 Q 13 [.ref 0, .int x1] [] (mk D ct)) (k2 : ¬ x1 ≤ (nI 20) → RUN X C 64 Q 11 [.ref 0, .int x1] [] (mk D ct)) : RUN X C 64 Q 5 [.ref 0, .int x1] [] (mk D ct) :=
  s_iload_n c64_5 rfl <|
  s_bipush c64_6 zcB_20 <|
  s_icle c64_8 k1 k2
theorem b64_11 {x1 : Int32} (hq : Q (some (.int (-1))) (mk D ct)) : RUN X C 64 Q 11 [.ref 0, .int x1] [] (mk D ct) :=
  s_const c64_11 zcI_m1 <|
  s_iret c64_12 (xrtI rfl) hq
theorem b64_13 {x1 : Int32} {D1 : zD} {ct1 : zM} (he : C 57 [.ref 18, .ref 14] (mk D ct) none (mk D1 ct1)) (kk : RUN X C 64 Q 24 [.ref 0, .int x1] [] (mk D1 ct1)) : RUN X C 64 Q 13 [.ref 0, .int x1] [] (mk D ct) :=
  s_aload_n c64_13 rfl <|
  s_getf (ct := ct) c64_14 rfl (by decide) rfl <|
  s_aload_n c64_17 rfl <|
  s_getf (ct := ct) c64_18 rfl (by decide) rfl <|
  s_callv (args := [.ref 14]) (r := []) c64_21 rfl rfl (Nat.le_of_ble_eq_true rfl) rfl ⟨rfl, by decide⟩ he kk
theorem b64_24 {x1 : Int32} {D1 : zD} {ct1 : zM} (he : C 65 [.ref 14, .int x1] (mk D ct) none (mk D1 ct1)) (kk : RUN X C 64 Q 32 [.ref 0, .int x1] [] (mk D1 ct1)) : RUN X C 64 Q 24 [.ref 0, .int x1] [] (mk D ct) :=
  s_aload_n c64_24 rfl <|
  s_getf (ct := ct) c64_25 rfl (by decide) rfl <|
  s_iload_n c64_28 rfl <|
  s_callv (args := [.int x1]) (r := []) c64_29 rfl rfl (Nat.le_of_ble_eq_true rfl) rfl ⟨rfl, by decide⟩ he kk
theorem b64_32 {x1 : Int32} (hq : Q (some (.int (ct 14 5))) (mk D ct)) : RUN X C 64 Q 32 [.ref 0, .int x1] [] (mk D ct) :=
  s_aload_n c64_32 rfl <|
  s_getf (ct := ct) c64_33 rfl (by decide) rfl <|
  s_getf (ct := ct) c64_36 rfl (by decide) rfl <|
  s_iret c64_39 (xrtI rfl) hq
-- ('PaintedTown$Town', 'goBy', '(I)V')
theorem b65_0 {a0 : Nat} (ha0 : zsh D a0 = (3, 0)) {x1 : Int32} {l2 : Value} (kk : RUN X C 65 Q 12 [.ref a0, .int x1, .int (nI 0)] [] (mk D (u2 ct a0 5 ((ct a0 5) + x1)))) : RUN X C 65 Q 0 [.ref a0, .int x1, l2] [] (mk D ct) :=
  s_aload_n c65_0 rfl <|
  s_dup c65_1 rfl <|
  s_getf (ct := ct) c65_2 ha0 (by decide) rfl <|
  s_iload_n c65_5 rfl <|
  s_iadd c65_6 <|
  s_putf (ct := ct) c65_7 ha0 (by decide) zint_3_5 xfit_3_5 <|
  s_const c65_10 zcI_0 <|
  s_istore_n c65_11 (Nat.le_of_ble_eq_true rfl) True.intro <|
  kk
theorem b65_12 {a0 : Nat} (ha0 : zsh D a0 = (3, 0)) {x1 : Int32} {x2 : Int32} (k1 : (nI 36) ≤ x2 → RUN X C 65 Q 44 [.ref a0, .int x1, .int x2] [] (mk D ct)) (k2 : ¬ (nI 36) ≤ x2 → RUN X C 65 Q 18 [.ref a0, .int x1, .int x2] [] (mk D ct)) : RUN X C 65 Q 12 [.ref a0, .int x1, .int x2] [] (mk D ct) :=
  s_iload_n c65_12 rfl <|
  s_bipush c65_13 zcB_36 <|
  s_icge c65_15 k1 k2
theorem b65_18 {a0 : Nat} (ha0 : zsh D a0 = (3, 0)) {x1 : Int32} {x2 : Int32} {j23 : Nat} (hx23 : zix x2 j23 36) (k1 : (ct (a0 + 1) j23) = (nI 5) → RUN X C 65 Q 28 [.ref a0, .int x1, .int x2] [] (mk D ct)) (k2 : ¬ (ct (a0 + 1) j23) = (nI 5) → RUN X C 65 Q 38 [.ref a0, .int x1, .int x2] [] (mk D ct)) : RUN X C 65 Q 18 [.ref a0, .int x1, .int x2] [] (mk D ct) :=
  s_aload_n c65_18 rfl <|
  s_getf (ct := ct) c65_19 ha0 (by decide) rfl <|
  s_iload_n c65_22 rfl <|
  s_iald (ct := ct) c65_23 (zsh_t1 ha0) hx23 <|
  s_const c65_24 zcI_5 <|
  s_icne c65_25 k1 k2
theorem b65_28 {a0 : Nat} (ha0 : zsh D a0 = (3, 0)) {x1 : Int32} {x2 : Int32} {j34 : Nat} (hx34 : zix x2 j34 36) {j37 : Nat} (hx37 : zix x2 j37 36) (kk : RUN X C 65 Q 12 [.ref a0, .int x1, .int (x2 + nI 1)] [] (mk D (u2 ct (a0 + 2) j37 ((ct (a0 + 2) j34) + x1)))) : RUN X C 65 Q 28 [.ref a0, .int x1, .int x2] [] (mk D ct) :=
  s_aload_n c65_28 rfl <|
  s_getf (ct := ct) c65_29 ha0 (by decide) rfl <|
  s_iload_n c65_32 rfl <|
  s_dup2 c65_33 rfl rfl <|
  s_iald (ct := ct) c65_34 (zsh_t2 ha0) hx34 <|
  s_iload_n c65_35 rfl <|
  s_iadd c65_36 <|
  s_iast (ct := ct) c65_37 (zsh_t2 ha0) hx37 <|
  s_iinc c65_38 rfl True.intro zcI_1 <|
  s_goto c65_41 <|
  kk
theorem b65_38 {a0 : Nat} (ha0 : zsh D a0 = (3, 0)) {x1 : Int32} {x2 : Int32} (kk : RUN X C 65 Q 12 [.ref a0, .int x1, .int (x2 + nI 1)] [] (mk D ct)) : RUN X C 65 Q 38 [.ref a0, .int x1, .int x2] [] (mk D ct) :=
  s_iinc c65_38 rfl True.intro zcI_1 <|
  s_goto c65_41 <|
  kk
theorem b65_44 {a0 : Nat} (ha0 : zsh D a0 = (3, 0)) {x1 : Int32} {x2 : Int32} (hq : Q none (mk D ct)) : RUN X C 65 Q 44 [.ref a0, .int x1, .int x2] [] (mk D ct) :=
  s_ret c65_44 rfl hq
-- ('PaintedTown', 'undo', '()I')
theorem b66_0 {D1 : zD} {ct1 : zM} {v1 : Int32} (he : C 67 [.ref 18, .ref 14] (mk D ct) (some (.int v1)) (mk D1 ct1)) (kk : RUN X C 66 Q 11 [.ref 0] [.int v1] (mk D1 ct1)) : RUN X C 66 Q 0 [.ref 0] [] (mk D ct) :=
  s_aload_n c66_0 rfl <|
  s_getf (ct := ct) c66_1 rfl (by decide) rfl <|
  s_aload_n c66_4 rfl <|
  s_getf (ct := ct) c66_5 rfl (by decide) rfl <|
  s_callv (args := [.ref 14]) (r := []) c66_8 rfl rfl (Nat.le_of_ble_eq_true rfl) rfl ⟨rfl, by decide⟩ he kk
theorem b66_11 {xs0 : Int32} (k1 : xs0 = (nI 0) → RUN X C 66 Q 14 [.ref 0] [] (mk D ct)) (k2 : ¬ xs0 = (nI 0) → RUN X C 66 Q 17 [.ref 0] [] (mk D ct)) : RUN X C 66 Q 11 [.ref 0] [.int xs0] (mk D ct) :=
  s_ifne c66_11 k1 k2
theorem b66_14 (hq : Q (some (.int (-2))) (mk D ct)) : RUN X C 66 Q 14 [.ref 0] [] (mk D ct) :=
  s_bipush c66_14 zcB_m2 <|
  s_iret c66_16 (xrtI rfl) hq
theorem b66_17 (hq : Q (some (.int (ct 18 2))) (mk D ct)) : RUN X C 66 Q 17 [.ref 0] [] (mk D ct) :=
  s_aload_n c66_17 rfl <|
  s_getf (ct := ct) c66_18 rfl (by decide) rfl <|
  s_getf (ct := ct) c66_21 rfl (by decide) rfl <|
  s_iret c66_24 (xrtI rfl) hq
-- ('PaintedTown', 'behind', '(II)I')
theorem b68_0 {x1 : Int32} {x2 : Int32} {l3 : Value} (k1 : x1 < (nI 0) → RUN X C 68 Q 19 [.ref 0, .int x1, .int x2, l3] [] (mk D ct)) (k2 : ¬ x1 < (nI 0) → RUN X C 68 Q 4 [.ref 0, .int x1, .int x2, l3] [] (mk D ct)) : RUN X C 68 Q 0 [.ref 0, .int x1, .int x2, l3] [] (mk D ct) :=
  s_iload_n c68_0 rfl <|
  s_iflt c68_1 k1 k2
theorem b68_4 {x1 : Int32} {x2 : Int32} {l3 : Value} (k1 : (nI 20) < x1 → RUN X C 68 Q 19 [.ref 0, .int x1, .int x2, l3] [] (mk D ct)) (k2 : ¬ (nI 20) < x1 → RUN X C 68 Q 10 [.ref 0, .int x1, .int x2, l3] [] (mk D ct)) : RUN X C 68 Q 4 [.ref 0, .int x1, .int x2, l3] [] (mk D ct) :=
  s_iload_n c68_4 rfl <|
  s_bipush c68_5 zcB_20 <|
  s_icgt c68_7 k1 k2
theorem b68_10 {x1 : Int32} {x2 : Int32} {l3 : Value} (k1 : x2 < (nI 0) → RUN X C 68 Q 19 [.ref 0, .int x1, .int x2, l3] [] (mk D ct)) (k2 : ¬ x2 < (nI 0) → RUN X C 68 Q 14 [.ref 0, .int x1, .int x2, l3] [] (mk D ct)) : RUN X C 68 Q 10 [.ref 0, .int x1, .int x2, l3] [] (mk D ct) :=
  s_iload_n c68_10 rfl <|
  s_iflt c68_11 k1 k2
theorem b68_14 {x1 : Int32} {x2 : Int32} {l3 : Value} (k1 : x2 ≤ (nI 1) → RUN X C 68 Q 21 [.ref 0, .int x1, .int x2, l3] [] (mk D ct)) (k2 : ¬ x2 ≤ (nI 1) → RUN X C 68 Q 19 [.ref 0, .int x1, .int x2, l3] [] (mk D ct)) : RUN X C 68 Q 14 [.ref 0, .int x1, .int x2, l3] [] (mk D ct) :=
  s_iload_n c68_14 rfl <|
  s_const c68_15 zcI_1 <|
  s_icle c68_16 k1 k2
theorem b68_19 {x1 : Int32} {x2 : Int32} {l3 : Value} (hq : Q (some (.int (-1))) (mk D ct)) : RUN X C 68 Q 19 [.ref 0, .int x1, .int x2, l3] [] (mk D ct) :=
  s_const c68_19 zcI_m1 <|
  s_iret c68_20 (xrtI rfl) hq
theorem b68_21 {x1 : Int32} {x2 : Int32} {l3 : Value} {D1 : zD} {ct1 : zM} {v1 : Int32} (he : C 69 [.ref 0, .int x1] (mk D ct) (some (.int v1)) (mk D1 ct1)) (kk : RUN X C 68 Q 26 [.ref 0, .int x1, .int x2, l3] [.int v1] (mk D1 ct1)) : RUN X C 68 Q 21 [.ref 0, .int x1, .int x2, l3] [] (mk D ct) :=
  s_aload_n c68_21 rfl <|
  s_iload_n c68_22 rfl <|
  s_callv (args := [.int x1]) (r := []) c68_23 rfl rfl (Nat.le_of_ble_eq_true rfl) rfl ⟨rfl, by decide⟩ he kk
theorem b68_26 {x1 : Int32} {x2 : Int32} {l3 : Value} {xs0 : Int32} (k1 : x2 = (nI 0) → RUN X C 68 Q 31 [.ref 0, .int x1, .int x2, .int xs0] [] (mk D ct)) (k2 : ¬ x2 = (nI 0) → RUN X C 68 Q 35 [.ref 0, .int x1, .int x2, .int xs0] [] (mk D ct)) : RUN X C 68 Q 26 [.ref 0, .int x1, .int x2, l3] [.int xs0] (mk D ct) :=
  s_istore_n c68_26 (Nat.le_of_ble_eq_true rfl) True.intro <|
  s_iload_n c68_27 rfl <|
  s_ifne c68_28 k1 k2
theorem b68_31 {x1 : Int32} {x2 : Int32} {x3 : Int32} (hq : Q (some (.int x3)) (mk D ct)) : RUN X C 68 Q 31 [.ref 0, .int x1, .int x2, .int x3] [] (mk D ct) :=
  s_iload_n c68_31 rfl <|
  s_goto c68_32 <|
  s_iret c68_54 (xrtI rfl) hq
theorem b68_35 {x1 : Int32} {x2 : Int32} {x3 : Int32} (k1 : (ct 11 2) < x3 → RUN X C 68 Q 50 [.ref 0, .int x1, .int x2, .int x3] [] (mk D ct)) (k2 : ¬ (ct 11 2) < x3 → RUN X C 68 Q 46 [.ref 0, .int x1, .int x2, .int x3] [] (mk D ct)) : RUN X C 68 Q 35 [.ref 0, .int x1, .int x2, .int x3] [] (mk D ct) :=
  s_iload_n c68_35 rfl <|
  s_aload_n c68_36 rfl <|
  s_getf (ct := ct) c68_37 rfl (by decide) rfl <|
  s_getf (ct := ct) c68_40 rfl (by decide) rfl <|
  s_icgt c68_43 k1 k2
theorem b68_46 {x1 : Int32} {x2 : Int32} {x3 : Int32} {D1 : zD} {ct1 : zM} {v1 : Int32} (he : C 55 [.int (nI 1)] (mk D ct) (some (.int v1)) (mk D1 ct1)) (kk : RUN X C 68 Q 54 [.ref 0, .int x1, .int x2, .int x3] [.int v1] (mk D1 ct1)) : RUN X C 68 Q 46 [.ref 0, .int x1, .int x2, .int x3] [] (mk D ct) :=
  s_const c68_46 zcI_1 <|
  s_goto c68_47 <|
  s_calls (args := [.int (nI 1)]) (r := []) c68_51 rfl rfl (Nat.le_of_ble_eq_true rfl) he kk
theorem b68_50 {x1 : Int32} {x2 : Int32} {x3 : Int32} {D1 : zD} {ct1 : zM} {v1 : Int32} (he : C 55 [.int (nI 0)] (mk D ct) (some (.int v1)) (mk D1 ct1)) (kk : RUN X C 68 Q 54 [.ref 0, .int x1, .int x2, .int x3] [.int v1] (mk D1 ct1)) : RUN X C 68 Q 50 [.ref 0, .int x1, .int x2, .int x3] [] (mk D ct) :=
  s_const c68_50 zcI_0 <|
  s_calls (args := [.int (nI 0)]) (r := []) c68_51 rfl rfl (Nat.le_of_ble_eq_true rfl) he kk
theorem b68_54 {x1 : Int32} {x2 : Int32} {x3 : Int32} {xs0 : Int32} (hq : Q (some (.int xs0)) (mk D ct)) : RUN X C 68 Q 54 [.ref 0, .int x1, .int x2, .int x3] [.int xs0] (mk D ct) :=
  s_iret c68_54 (xrtI rfl) hq
-- ('PaintedTown', 'sumBehind', '(I)I')
theorem b69_0 {x1 : Int32} {D1 : zD} {ct1 : zM} (he : C 42 [.ref 0] (mk D ct) none (mk D1 ct1)) (kk : RUN X C 69 Q 4 [.ref 0, .int x1] [] (mk D1 ct1)) : RUN X C 69 Q 0 [.ref 0, .int x1] [] (mk D ct) :=
  s_aload_n c69_0 rfl <|
  s_callv (args := []) (r := []) c69_1 rfl rfl (Nat.le_of_ble_eq_true rfl) rfl ⟨rfl, by decide⟩ he kk
theorem b69_4 {x1 : Int32} {D1 : zD} {ct1 : zM} (he : C 65 [.ref 22, .int x1] (mk D ct) none (mk D1 ct1)) (kk : RUN X C 69 Q 12 [.ref 0, .int x1] [] (mk D1 ct1)) : RUN X C 69 Q 4 [.ref 0, .int x1] [] (mk D ct) :=
  s_aload_n c69_4 rfl <|
  s_getf (ct := ct) c69_5 rfl (by decide) rfl <|
  s_iload_n c69_8 rfl <|
  s_callv (args := [.int x1]) (r := []) c69_9 rfl rfl (Nat.le_of_ble_eq_true rfl) rfl ⟨rfl, by decide⟩ he kk
theorem b69_12 {x1 : Int32} {D1 : zD} {ct1 : zM} {v1 : Int32} (he : C 51 [.ref 26] (mk D ct) (some (.int v1)) (mk D1 ct1)) (kk : RUN X C 69 Q 19 [.ref 0, .int x1] [.int v1] (mk D1 ct1)) : RUN X C 69 Q 12 [.ref 0, .int x1] [] (mk D ct) :=
  s_aload_n c69_12 rfl <|
  s_getf (ct := ct) c69_13 rfl (by decide) rfl <|
  s_callv (args := []) (r := []) c69_16 rfl rfl (Nat.le_of_ble_eq_true rfl) rfl ⟨rfl, by decide⟩ he kk
theorem b69_19 {x1 : Int32} {xs0 : Int32} (hq : Q (some (.int xs0)) (mk D ct)) : RUN X C 69 Q 19 [.ref 0, .int x1] [.int xs0] (mk D ct) :=
  s_iret c69_19 (xrtI rfl) hq
-- ('PaintedTown', 'until', '()I')
theorem b70_0 {l1 : Value} (kk : RUN X C 70 Q 2 [.ref 0, .int (nI 0)] [] (mk D ct)) : RUN X C 70 Q 0 [.ref 0, l1] [] (mk D ct) :=
  s_const c70_0 zcI_0 <|
  s_istore_n c70_1 (Nat.le_of_ble_eq_true rfl) True.intro <|
  kk
theorem b70_2 {x1 : Int32} (k1 : (nI 20) < x1 → RUN X C 70 Q 31 [.ref 0, .int x1] [] (mk D ct)) (k2 : ¬ (nI 20) < x1 → RUN X C 70 Q 8 [.ref 0, .int x1] [] (mk D ct)) : RUN X C 70 Q 2 [.ref 0, .int x1] [] (mk D ct) :=
  s_iload_n c70_2 rfl <|
  s_bipush c70_3 zcB_20 <|
  s_icgt c70_5 k1 k2
theorem b70_8 {x1 : Int32} {D1 : zD} {ct1 : zM} {v1 : Int32} (he : C 69 [.ref 0, .int x1] (mk D ct) (some (.int v1)) (mk D1 ct1)) (kk : RUN X C 70 Q 13 [.ref 0, .int x1] [.int v1] (mk D1 ct1)) : RUN X C 70 Q 8 [.ref 0, .int x1] [] (mk D ct) :=
  s_aload_n c70_8 rfl <|
  s_iload_n c70_9 rfl <|
  s_callv (args := [.int x1]) (r := []) c70_10 rfl rfl (Nat.le_of_ble_eq_true rfl) rfl ⟨rfl, by decide⟩ he kk
theorem b70_13 {x1 : Int32} {xs0 : Int32} (k1 : xs0 ≤ (ct 11 2) → RUN X C 70 Q 25 [.ref 0, .int x1] [] (mk D ct)) (k2 : ¬ xs0 ≤ (ct 11 2) → RUN X C 70 Q 23 [.ref 0, .int x1] [] (mk D ct)) : RUN X C 70 Q 13 [.ref 0, .int x1] [.int xs0] (mk D ct) :=
  s_aload_n c70_13 rfl <|
  s_getf (ct := ct) c70_14 rfl (by decide) rfl <|
  s_getf (ct := ct) c70_17 rfl (by decide) rfl <|
  s_icle c70_20 k1 k2
theorem b70_23 {x1 : Int32} (hq : Q (some (.int x1)) (mk D ct)) : RUN X C 70 Q 23 [.ref 0, .int x1] [] (mk D ct) :=
  s_iload_n c70_23 rfl <|
  s_iret c70_24 (xrtI rfl) hq
theorem b70_25 {x1 : Int32} (kk : RUN X C 70 Q 2 [.ref 0, .int (x1 + nI 1)] [] (mk D ct)) : RUN X C 70 Q 25 [.ref 0, .int x1] [] (mk D ct) :=
  s_iinc c70_25 rfl True.intro zcI_1 <|
  s_goto c70_28 <|
  kk
theorem b70_31 {x1 : Int32} (hq : Q (some (.int (-4))) (mk D ct)) : RUN X C 70 Q 31 [.ref 0, .int x1] [] (mk D ct) :=
  s_bipush c70_31 zcB_m4 <|
  s_iret c70_33 (xrtI rfl) hq
-- ('PaintedTown', 'least', '(I)I')
theorem b71_0 {x1 : Int32} (k1 : x1 < (nI 0) → RUN X C 71 Q 9 [.ref 0, .int x1] [] (mk D ct)) (k2 : ¬ x1 < (nI 0) → RUN X C 71 Q 4 [.ref 0, .int x1] [] (mk D ct)) : RUN X C 71 Q 0 [.ref 0, .int x1] [] (mk D ct) :=
  s_iload_n c71_0 rfl <|
  s_iflt c71_1 k1 k2
theorem b71_4 {x1 : Int32} (k1 : x1 ≤ (nI 3) → RUN X C 71 Q 11 [.ref 0, .int x1] [] (mk D ct)) (k2 : ¬ x1 ≤ (nI 3) → RUN X C 71 Q 9 [.ref 0, .int x1] [] (mk D ct)) : RUN X C 71 Q 4 [.ref 0, .int x1] [] (mk D ct) :=
  s_iload_n c71_4 rfl <|
  s_const c71_5 zcI_3 <|
  s_icle c71_6 k1 k2
theorem b71_9 {x1 : Int32} (hq : Q (some (.int (-1))) (mk D ct)) : RUN X C 71 Q 9 [.ref 0, .int x1] [] (mk D ct) :=
  s_const c71_9 zcI_m1 <|
  s_iret c71_10 (xrtI rfl) hq
theorem b71_11 {x1 : Int32} {D1 : zD} {ct1 : zM} (he : C 42 [.ref 0] (mk D ct) none (mk D1 ct1)) (kk : RUN X C 71 Q 15 [.ref 0, .int x1] [] (mk D1 ct1)) : RUN X C 71 Q 11 [.ref 0, .int x1] [] (mk D ct) :=
  s_aload_n c71_11 rfl <|
  s_callv (args := []) (r := []) c71_12 rfl rfl (Nat.le_of_ble_eq_true rfl) rfl ⟨rfl, by decide⟩ he kk
theorem b71_15 {x1 : Int32} {D1 : zD} {ct1 : zM} (he : C 72 [.ref 28, .int (nI 0)] (mk D ct) none (mk D1 ct1)) (kk : RUN X C 71 Q 23 [.ref 0, .int x1] [] (mk D1 ct1)) : RUN X C 71 Q 15 [.ref 0, .int x1] [] (mk D ct) :=
  s_aload_n c71_15 rfl <|
  s_getf (ct := ct) c71_16 rfl (by decide) rfl <|
  s_const c71_19 zcI_0 <|
  s_callv (args := [.int (nI 0)]) (r := []) c71_20 rfl rfl (Nat.le_of_ble_eq_true rfl) rfl ⟨rfl, by decide⟩ he kk
theorem b71_23 {x1 : Int32} {D1 : zD} {ct1 : zM} (he : C 73 [.ref 28, .int (nI 0), .int (nI 0), .int (nI 0)] (mk D ct) none (mk D1 ct1)) (kk : RUN X C 71 Q 33 [.ref 0, .int x1] [] (mk D1 ct1)) : RUN X C 71 Q 23 [.ref 0, .int x1] [] (mk D ct) :=
  s_aload_n c71_23 rfl <|
  s_getf (ct := ct) c71_24 rfl (by decide) rfl <|
  s_const c71_27 zcI_0 <|
  s_const c71_28 zcI_0 <|
  s_const c71_29 zcI_0 <|
  s_callv (args := [.int (nI 0), .int (nI 0), .int (nI 0)]) (r := []) c71_30 rfl rfl (Nat.le_of_ble_eq_true rfl) rfl ⟨rfl, by decide⟩ he kk
theorem b71_33 {x1 : Int32} (k1 : x1 = (nI 0) → RUN X C 71 Q 37 [.ref 0, .int x1] [] (mk D ct)) (k2 : ¬ x1 = (nI 0) → RUN X C 71 Q 47 [.ref 0, .int x1] [] (mk D ct)) : RUN X C 71 Q 33 [.ref 0, .int x1] [] (mk D ct) :=
  s_iload_n c71_33 rfl <|
  s_ifne c71_34 k1 k2
theorem b71_37 {x1 : Int32} {D1 : zD} {ct1 : zM} {v1 : Int32} (he : C 78 [.ref 28] (mk D ct) (some (.int v1)) (mk D1 ct1)) (kk : RUN X C 71 Q 44 [.ref 0, .int x1] [.int v1] (mk D1 ct1)) : RUN X C 71 Q 37 [.ref 0, .int x1] [] (mk D ct) :=
  s_aload_n c71_37 rfl <|
  s_getf (ct := ct) c71_38 rfl (by decide) rfl <|
  s_callv (args := []) (r := []) c71_41 rfl rfl (Nat.le_of_ble_eq_true rfl) rfl ⟨rfl, by decide⟩ he kk
theorem b71_44 {x1 : Int32} {xs0 : Int32} (hq : Q (some (.int xs0)) (mk D ct)) : RUN X C 71 Q 44 [.ref 0, .int x1] [.int xs0] (mk D ct) :=
  s_goto c71_44 <|
  s_iret c71_55 (xrtI rfl) hq
theorem b71_47 {x1 : Int32} {D1 : zD} {ct1 : zM} {v1 : Int32} (he : C 79 [.ref 28, .int x1] (mk D ct) (some (.int v1)) (mk D1 ct1)) (kk : RUN X C 71 Q 55 [.ref 0, .int x1] [.int v1] (mk D1 ct1)) : RUN X C 71 Q 47 [.ref 0, .int x1] [] (mk D ct) :=
  s_aload_n c71_47 rfl <|
  s_getf (ct := ct) c71_48 rfl (by decide) rfl <|
  s_iload_n c71_51 rfl <|
  s_callv (args := [.int x1]) (r := []) c71_52 rfl rfl (Nat.le_of_ble_eq_true rfl) rfl ⟨rfl, by decide⟩ he kk
theorem b71_55 {x1 : Int32} {xs0 : Int32} (hq : Q (some (.int xs0)) (mk D ct)) : RUN X C 71 Q 55 [.ref 0, .int x1] [.int xs0] (mk D ct) :=
  s_iret c71_55 (xrtI rfl) hq
-- ('PaintedTown$Search', 'start', '(Z)V')
theorem b72_0 {x1 : Int32} {D1 : zD} {ct1 : zM} {v1 : Int32} (hb2 : x1 = nI 0 ∨ x1 = nI 1) (he : C 51 [.ref 26] (mk D (u2 (u2 ct 28 5 x1) 28 6 (nI 0))) (some (.int v1)) (mk D1 ct1)) (kk : RUN X C 72 Q 17 [.ref 28, .int x1] [.int v1] (mk D1 ct1)) : RUN X C 72 Q 0 [.ref 28, .int x1] [] (mk D ct) :=
  s_aload_n c72_0 rfl <|
  s_iload_n c72_1 rfl <|
  s_putf (ct := ct) c72_2 rfl (by decide) zint_6_5 (xfit_6_5 hb2) <|
  s_aload_n c72_5 rfl <|
  s_const c72_6 zcI_0 <|
  s_putf (ct := (u2 ct 28 5 x1)) c72_7 rfl (by decide) zint_6_6 (xfit_6_6 (Or.inl rfl)) <|
  s_aload_n c72_10 rfl <|
  s_getf (ct := (u2 (u2 ct 28 5 x1) 28 6 (nI 0))) c72_11 rfl (by decide) rfl <|
  s_callv (args := []) (r := []) c72_14 rfl rfl (Nat.le_of_ble_eq_true rfl) rfl ⟨rfl, by decide⟩ he kk
theorem b72_17 {x1 : Int32} {xs0 : Int32} (hq : Q none (mk D ct)) : RUN X C 72 Q 17 [.ref 28, .int x1] [.int xs0] (mk D ct) :=
  s_pop c72_17 rfl <|
  s_ret c72_18 rfl hq
-- ('PaintedTown$Search', 'extend', '(III)V')
theorem b73_0 {x1 : Int32} {x2 : Int32} {x3 : Int32} {D1 : zD} {ct1 : zM} {v1 : Int32} (he : C 74 [.ref 28, .int x3, .int x2] (mk D ct) (some (.int v1)) (mk D1 ct1)) (kk : RUN X C 73 Q 6 [.ref 28, .int x1, .int x2, .int x3] [.int v1] (mk D1 ct1)) : RUN X C 73 Q 0 [.ref 28, .int x1, .int x2, .int x3] [] (mk D ct) :=
  s_aload_n c73_0 rfl <|
  s_iload_n c73_1 rfl <|
  s_iload_n c73_2 rfl <|
  s_callv (args := [.int x3, .int x2]) (r := []) c73_3 rfl rfl (Nat.le_of_ble_eq_true rfl) rfl ⟨rfl, by decide⟩ he kk
theorem b73_6 {x1 : Int32} {x2 : Int32} {x3 : Int32} {xs0 : Int32} (k1 : xs0 = (nI 0) → RUN X C 73 Q 9 [.ref 28, .int x1, .int x2, .int x3] [] (mk D ct)) (k2 : ¬ xs0 = (nI 0) → RUN X C 73 Q 10 [.ref 28, .int x1, .int x2, .int x3] [] (mk D ct)) : RUN X C 73 Q 6 [.ref 28, .int x1, .int x2, .int x3] [.int xs0] (mk D ct) :=
  s_ifne c73_6 k1 k2
theorem b73_9 {x1 : Int32} {x2 : Int32} {x3 : Int32} (hq : Q none (mk D ct)) : RUN X C 73 Q 9 [.ref 28, .int x1, .int x2, .int x3] [] (mk D ct) :=
  s_ret c73_9 rfl hq
theorem b73_10 {x1 : Int32} {x2 : Int32} {x3 : Int32} {D1 : zD} {ct1 : zM} {v1 : Int32} (he : C 54 [.ref 26] (mk D ct) (some (.int v1)) (mk D1 ct1)) (kk : RUN X C 73 Q 17 [.ref 28, .int x1, .int x2, .int x3] [.int v1] (mk D1 ct1)) : RUN X C 73 Q 10 [.ref 28, .int x1, .int x2, .int x3] [] (mk D ct) :=
  s_aload_n c73_10 rfl <|
  s_getf (ct := ct) c73_11 rfl (by decide) rfl <|
  s_callv (args := []) (r := []) c73_14 rfl rfl (Nat.le_of_ble_eq_true rfl) rfl ⟨rfl, by decide⟩ he kk
theorem b73_17 {x1 : Int32} {x2 : Int32} {x3 : Int32} {xs0 : Int32} (k1 : (ct 11 2) < xs0 → RUN X C 73 Q 34 [.ref 28, .int x1, .int x2, .int x3] [] (mk D ct)) (k2 : ¬ (ct 11 2) < xs0 → RUN X C 73 Q 27 [.ref 28, .int x1, .int x2, .int x3] [] (mk D ct)) : RUN X C 73 Q 17 [.ref 28, .int x1, .int x2, .int x3] [.int xs0] (mk D ct) :=
  s_aload_n c73_17 rfl <|
  s_getf (ct := ct) c73_18 rfl (by decide) rfl <|
  s_getf (ct := ct) c73_21 rfl (by decide) rfl <|
  s_icgt c73_24 k1 k2
theorem b73_27 {x1 : Int32} {x2 : Int32} {x3 : Int32} {D1 : zD} {ct1 : zM} (he : C 75 [.ref 28, .int x2, .int x3] (mk D ct) none (mk D1 ct1)) (kk : RUN X C 73 Q 33 [.ref 28, .int x1, .int x2, .int x3] [] (mk D1 ct1)) : RUN X C 73 Q 27 [.ref 28, .int x1, .int x2, .int x3] [] (mk D ct) :=
  s_aload_n c73_27 rfl <|
  s_iload_n c73_28 rfl <|
  s_iload_n c73_29 rfl <|
  s_callv (args := [.int x2, .int x3]) (r := []) c73_30 rfl rfl (Nat.le_of_ble_eq_true rfl) rfl ⟨rfl, by decide⟩ he kk
theorem b73_33 {x1 : Int32} {x2 : Int32} {x3 : Int32} (hq : Q none (mk D ct)) : RUN X C 73 Q 33 [.ref 28, .int x1, .int x2, .int x3] [] (mk D ct) :=
  s_ret c73_33 rfl hq
theorem b73_34 {x1 : Int32} {x2 : Int32} {x3 : Int32} {D1 : zD} {ct1 : zM} (he : C 76 [.ref 28, .int x1, .int x2, .int x3] (mk D ct) none (mk D1 ct1)) (kk : RUN X C 73 Q 41 [.ref 28, .int x1, .int x2, .int x3] [] (mk D1 ct1)) : RUN X C 73 Q 34 [.ref 28, .int x1, .int x2, .int x3] [] (mk D ct) :=
  s_aload_n c73_34 rfl <|
  s_iload_n c73_35 rfl <|
  s_iload_n c73_36 rfl <|
  s_iload_n c73_37 rfl <|
  s_callv (args := [.int x1, .int x2, .int x3]) (r := []) c73_38 rfl rfl (Nat.le_of_ble_eq_true rfl) rfl ⟨rfl, by decide⟩ he kk
theorem b73_41 {x1 : Int32} {x2 : Int32} {x3 : Int32} (hq : Q none (mk D ct)) : RUN X C 73 Q 41 [.ref 28, .int x1, .int x2, .int x3] [] (mk D ct) :=
  s_ret c73_41 rfl hq
-- ('PaintedTown$Search', 'isBetter', '(II)Z')
theorem b74_0 {x1 : Int32} {x2 : Int32} (k1 : (ct 28 6) = (nI 0) → RUN X C 74 Q 31 [.ref 28, .int x1, .int x2] [] (mk D ct)) (k2 : ¬ (ct 28 6) = (nI 0) → RUN X C 74 Q 7 [.ref 28, .int x1, .int x2] [] (mk D ct)) : RUN X C 74 Q 0 [.ref 28, .int x1, .int x2] [] (mk D ct) :=
  s_aload_n c74_0 rfl <|
  s_getf (ct := ct) c74_1 rfl (by decide) rfl <|
  s_ifeq c74_4 k1 k2
theorem b74_7 {x1 : Int32} {x2 : Int32} (k1 : x1 < (ct 28 7) → RUN X C 74 Q 31 [.ref 28, .int x1, .int x2] [] (mk D ct)) (k2 : ¬ x1 < (ct 28 7) → RUN X C 74 Q 15 [.ref 28, .int x1, .int x2] [] (mk D ct)) : RUN X C 74 Q 7 [.ref 28, .int x1, .int x2] [] (mk D ct) :=
  s_iload_n c74_7 rfl <|
  s_aload_n c74_8 rfl <|
  s_getf (ct := ct) c74_9 rfl (by decide) rfl <|
  s_iclt c74_12 k1 k2
theorem b74_15 {x1 : Int32} {x2 : Int32} (k1 : x1 = (ct 28 7) → RUN X C 74 Q 23 [.ref 28, .int x1, .int x2] [] (mk D ct)) (k2 : ¬ x1 = (ct 28 7) → RUN X C 74 Q 35 [.ref 28, .int x1, .int x2] [] (mk D ct)) : RUN X C 74 Q 15 [.ref 28, .int x1, .int x2] [] (mk D ct) :=
  s_iload_n c74_15 rfl <|
  s_aload_n c74_16 rfl <|
  s_getf (ct := ct) c74_17 rfl (by decide) rfl <|
  s_icne c74_20 k1 k2
theorem b74_23 {x1 : Int32} {x2 : Int32} (k1 : (ct 28 8) ≤ x2 → RUN X C 74 Q 35 [.ref 28, .int x1, .int x2] [] (mk D ct)) (k2 : ¬ (ct 28 8) ≤ x2 → RUN X C 74 Q 31 [.ref 28, .int x1, .int x2] [] (mk D ct)) : RUN X C 74 Q 23 [.ref 28, .int x1, .int x2] [] (mk D ct) :=
  s_iload_n c74_23 rfl <|
  s_aload_n c74_24 rfl <|
  s_getf (ct := ct) c74_25 rfl (by decide) rfl <|
  s_icge c74_28 k1 k2
theorem b74_31 {x1 : Int32} {x2 : Int32} (hq : Q (some (.int (nI 1))) (mk D ct)) : RUN X C 74 Q 31 [.ref 28, .int x1, .int x2] [] (mk D ct) :=
  s_const c74_31 zcI_1 <|
  s_goto c74_32 <|
  s_iret c74_36 (xrtZ rfl (Or.inr rfl)) hq
theorem b74_35 {x1 : Int32} {x2 : Int32} (hq : Q (some (.int (nI 0))) (mk D ct)) : RUN X C 74 Q 35 [.ref 28, .int x1, .int x2] [] (mk D ct) :=
  s_const c74_35 zcI_0 <|
  s_iret c74_36 (xrtZ rfl (Or.inl rfl)) hq
-- ('PaintedTown$Search', 'take', '(II)V')
theorem b75_0 {x1 : Int32} {x2 : Int32} {l3 : Value} (kk : RUN X C 75 Q 17 [.ref 28, .int x1, .int x2, .int (nI 0)] [] (mk D (u2 (u2 (u2 ct 28 6 (nI 1)) 28 7 x2) 28 8 x1))) : RUN X C 75 Q 0 [.ref 28, .int x1, .int x2, l3] [] (mk D ct) :=
  s_aload_n c75_0 rfl <|
  s_const c75_1 zcI_1 <|
  s_putf (ct := ct) c75_2 rfl (by decide) zint_6_6 (xfit_6_6 (Or.inr rfl)) <|
  s_aload_n c75_5 rfl <|
  s_iload_n c75_6 rfl <|
  s_putf (ct := (u2 ct 28 6 (nI 1))) c75_7 rfl (by decide) zint_6_7 xfit_6_7 <|
  s_aload_n c75_10 rfl <|
  s_iload_n c75_11 rfl <|
  s_putf (ct := (u2 (u2 ct 28 6 (nI 1)) 28 7 x2)) c75_12 rfl (by decide) zint_6_8 xfit_6_8 <|
  s_const c75_15 zcI_0 <|
  s_istore_n c75_16 (Nat.le_of_ble_eq_true rfl) True.intro <|
  kk
theorem b75_17 {x1 : Int32} {x2 : Int32} {x3 : Int32} (k1 : x1 ≤ x3 → RUN X C 75 Q 45 [.ref 28, .int x1, .int x2, .int x3] [] (mk D ct)) (k2 : ¬ x1 ≤ x3 → RUN X C 75 Q 22 [.ref 28, .int x1, .int x2, .int x3] [] (mk D ct)) : RUN X C 75 Q 17 [.ref 28, .int x1, .int x2, .int x3] [] (mk D ct) :=
  s_iload_n c75_17 rfl <|
  s_iload_n c75_18 rfl <|
  s_icge c75_19 k1 k2
theorem b75_22 {x1 : Int32} {x2 : Int32} {x3 : Int32} (k1 : (nI 3) ≤ x3 → RUN X C 75 Q 45 [.ref 28, .int x1, .int x2, .int x3] [] (mk D ct)) (k2 : ¬ (nI 3) ≤ x3 → RUN X C 75 Q 27 [.ref 28, .int x1, .int x2, .int x3] [] (mk D ct)) : RUN X C 75 Q 22 [.ref 28, .int x1, .int x2, .int x3] [] (mk D ct) :=
  s_iload_n c75_22 rfl <|
  s_const c75_23 zcI_3 <|
  s_icge c75_24 k1 k2
theorem b75_27 {x1 : Int32} {x2 : Int32} {x3 : Int32} {j37 : Nat} (hx37 : zix x3 j37 3) {j38 : Nat} (hx38 : zix x3 j38 3) (kk : RUN X C 75 Q 17 [.ref 28, .int x1, .int x2, .int (x3 + nI 1)] [] (mk D (u2 ct 30 j38 (ct 29 j37)))) : RUN X C 75 Q 27 [.ref 28, .int x1, .int x2, .int x3] [] (mk D ct) :=
  s_aload_n c75_27 rfl <|
  s_getf (ct := ct) c75_28 rfl (by decide) rfl <|
  s_iload_n c75_31 rfl <|
  s_aload_n c75_32 rfl <|
  s_getf (ct := ct) c75_33 rfl (by decide) rfl <|
  s_iload_n c75_36 rfl <|
  s_iald (ct := ct) c75_37 rfl hx37 <|
  s_iast (ct := ct) c75_38 rfl hx38 <|
  s_iinc c75_39 rfl True.intro zcI_1 <|
  s_goto c75_42 <|
  kk
theorem b75_45 {x1 : Int32} {x2 : Int32} {x3 : Int32} (hq : Q none (mk D ct)) : RUN X C 75 Q 45 [.ref 28, .int x1, .int x2, .int x3] [] (mk D ct) :=
  s_ret c75_45 rfl hq
-- ('PaintedTown$Search', 'addEach', '(III)V')
theorem b76_0 {x1 : Int32} {x2 : Int32} {x3 : Int32} {l4 : Value} {l5 : Value} {l6 : Value} {l7 : Value} {l8 : Value} (k1 : x1 < (nI 0) → RUN X C 76 Q 13 [.ref 28, .int x1, .int x2, .int x3, l4, l5, l6, l7, l8] [] (mk D ct)) (k2 : ¬ x1 < (nI 0) → RUN X C 76 Q 4 [.ref 28, .int x1, .int x2, .int x3, l4, l5, l6, l7, l8] [] (mk D ct)) : RUN X C 76 Q 0 [.ref 28, .int x1, .int x2, .int x3, l4, l5, l6, l7, l8] [] (mk D ct) :=
  s_iload_n c76_0 rfl <|
  s_iflt c76_1 k1 k2
theorem b76_4 {x1 : Int32} {x2 : Int32} {x3 : Int32} {l4 : Value} {l5 : Value} {l6 : Value} {l7 : Value} {l8 : Value} (k1 : x2 < (nI 0) → RUN X C 76 Q 13 [.ref 28, .int x1, .int x2, .int x3, l4, l5, l6, l7, l8] [] (mk D ct)) (k2 : ¬ x2 < (nI 0) → RUN X C 76 Q 8 [.ref 28, .int x1, .int x2, .int x3, l4, l5, l6, l7, l8] [] (mk D ct)) : RUN X C 76 Q 4 [.ref 28, .int x1, .int x2, .int x3, l4, l5, l6, l7, l8] [] (mk D ct) :=
  s_iload_n c76_4 rfl <|
  s_iflt c76_5 k1 k2
theorem b76_8 {x1 : Int32} {x2 : Int32} {x3 : Int32} {l4 : Value} {l5 : Value} {l6 : Value} {l7 : Value} {l8 : Value} (k1 : x2 < (nI 3) → RUN X C 76 Q 14 [.ref 28, .int x1, .int x2, .int x3, l4, l5, l6, l7, l8] [] (mk D ct)) (k2 : ¬ x2 < (nI 3) → RUN X C 76 Q 13 [.ref 28, .int x1, .int x2, .int x3, l4, l5, l6, l7, l8] [] (mk D ct)) : RUN X C 76 Q 8 [.ref 28, .int x1, .int x2, .int x3, l4, l5, l6, l7, l8] [] (mk D ct) :=
  s_iload_n c76_8 rfl <|
  s_const c76_9 zcI_3 <|
  s_iclt c76_10 k1 k2
theorem b76_13 {x1 : Int32} {x2 : Int32} {x3 : Int32} {l4 : Value} {l5 : Value} {l6 : Value} {l7 : Value} {l8 : Value} (hq : Q none (mk D ct)) : RUN X C 76 Q 13 [.ref 28, .int x1, .int x2, .int x3, l4, l5, l6, l7, l8] [] (mk D ct) :=
  s_ret c76_13 rfl hq
theorem b76_14 {x1 : Int32} {x2 : Int32} {x3 : Int32} {l4 : Value} {l5 : Value} {l6 : Value} {l7 : Value} {l8 : Value} {D1 : zD} {ct1 : zM} {v1 : Int32} (he : C 36 [.ref 11] (mk D ct) (some (.int v1)) (mk D1 ct1)) (kk : RUN X C 76 Q 21 [.ref 28, .int x1, .int x2, .int x3, l4, l5, l6, l7, l8] [.int v1] (mk D1 ct1)) : RUN X C 76 Q 14 [.ref 28, .int x1, .int x2, .int x3, l4, l5, l6, l7, l8] [] (mk D ct) :=
  s_aload_n c76_14 rfl <|
  s_getf (ct := ct) c76_15 rfl (by decide) rfl <|
  s_callv (args := []) (r := []) c76_18 rfl rfl (Nat.le_of_ble_eq_true rfl) rfl ⟨rfl, by decide⟩ he kk
theorem b76_21 {x1 : Int32} {x2 : Int32} {x3 : Int32} {l4 : Value} {l5 : Value} {l6 : Value} {l7 : Value} {l8 : Value} {xs0 : Int32} (kk : RUN X C 76 Q 26 [.ref 28, .int x1, .int x2, .int x3, .int xs0, .int x1, l6, l7, l8] [] (mk D ct)) : RUN X C 76 Q 21 [.ref 28, .int x1, .int x2, .int x3, l4, l5, l6, l7, l8] [.int xs0] (mk D ct) :=
  s_istore c76_21 (Nat.le_of_ble_eq_true rfl) True.intro <|
  s_iload_n c76_23 rfl <|
  s_istore c76_24 (Nat.le_of_ble_eq_true rfl) True.intro <|
  kk
theorem b76_26 {x1 : Int32} {x2 : Int32} {x3 : Int32} {x4 : Int32} {x5 : Int32} {l6 : Value} {l7 : Value} {l8 : Value} (k1 : x4 ≤ x5 → RUN X C 76 Q 173 [.ref 28, .int x1, .int x2, .int x3, .int x4, .int x5, l6, l7, l8] [] (mk D ct)) (k2 : ¬ x4 ≤ x5 → RUN X C 76 Q 33 [.ref 28, .int x1, .int x2, .int x3, .int x4, .int x5, l6, l7, l8] [] (mk D ct)) : RUN X C 76 Q 26 [.ref 28, .int x1, .int x2, .int x3, .int x4, .int x5, l6, l7, l8] [] (mk D ct) :=
  s_iload c76_26 rfl <|
  s_iload c76_28 rfl <|
  s_icge c76_30 k1 k2
theorem b76_33 {x1 : Int32} {x2 : Int32} {x3 : Int32} {x4 : Int32} {x5 : Int32} {l6 : Value} {l7 : Value} {l8 : Value} (k1 : (nI 36) ≤ x5 → RUN X C 76 Q 173 [.ref 28, .int x1, .int x2, .int x3, .int x4, .int x5, l6, l7, l8] [] (mk D ct)) (k2 : ¬ (nI 36) ≤ x5 → RUN X C 76 Q 40 [.ref 28, .int x1, .int x2, .int x3, .int x4, .int x5, l6, l7, l8] [] (mk D ct)) : RUN X C 76 Q 33 [.ref 28, .int x1, .int x2, .int x3, .int x4, .int x5, l6, l7, l8] [] (mk D ct) :=
  s_iload c76_33 rfl <|
  s_bipush c76_35 zcB_36 <|
  s_icge c76_37 k1 k2
theorem b76_40 {x1 : Int32} {x2 : Int32} {x3 : Int32} {x4 : Int32} {x5 : Int32} {l6 : Value} {l7 : Value} {l8 : Value} {j49 : Nat} (hx49 : zix x5 j49 36) {j61 : Nat} (hx61 : zix x5 j61 36) {j73 : Nat} (hx73 : zix x5 j73 36) (k1 : (ct 28 5) = (nI 0) → RUN X C 76 Q 99 [.ref 28, .int x1, .int x2, .int x3, .int x4, .int x5, .int (ct 12 j49), .int (ct 23 j61), .int (ct 24 j73)] [] (mk D ct)) (k2 : ¬ (ct 28 5) = (nI 0) → RUN X C 76 Q 83 [.ref 28, .int x1, .int x2, .int x3, .int x4, .int x5, .int (ct 12 j49), .int (ct 23 j61), .int (ct 24 j73)] [] (mk D ct)) : RUN X C 76 Q 40 [.ref 28, .int x1, .int x2, .int x3, .int x4, .int x5, l6, l7, l8] [] (mk D ct) :=
  s_aload_n c76_40 rfl <|
  s_getf (ct := ct) c76_41 rfl (by decide) rfl <|
  s_getf (ct := ct) c76_44 rfl (by decide) rfl <|
  s_iload c76_47 rfl <|
  s_iald (ct := ct) c76_49 rfl hx49 <|
  s_istore c76_50 (Nat.le_of_ble_eq_true rfl) True.intro <|
  s_aload_n c76_52 rfl <|
  s_getf (ct := ct) c76_53 rfl (by decide) rfl <|
  s_getf (ct := ct) c76_56 rfl (by decide) rfl <|
  s_iload c76_59 rfl <|
  s_iald (ct := ct) c76_61 rfl hx61 <|
  s_istore c76_62 (Nat.le_of_ble_eq_true rfl) True.intro <|
  s_aload_n c76_64 rfl <|
  s_getf (ct := ct) c76_65 rfl (by decide) rfl <|
  s_getf (ct := ct) c76_68 rfl (by decide) rfl <|
  s_iload c76_71 rfl <|
  s_iald (ct := ct) c76_73 rfl hx73 <|
  s_istore c76_74 (Nat.le_of_ble_eq_true rfl) True.intro <|
  s_aload_n c76_76 rfl <|
  s_getf (ct := ct) c76_77 rfl (by decide) rfl <|
  s_ifeq c76_80 k1 k2
theorem b76_83 {x1 : Int32} {x2 : Int32} {x3 : Int32} {x4 : Int32} {x5 : Int32} {x6 : Int32} {x7 : Int32} {x8 : Int32} {j92 : Nat} (hx92 : zix x5 j92 36) (k1 : (ct 25 j92) = (nI 0) → RUN X C 76 Q 109 [.ref 28, .int x1, .int x2, .int x3, .int x4, .int x5, .int x6, .int x7, .int x8] [] (mk D ct)) (k2 : ¬ (ct 25 j92) = (nI 0) → RUN X C 76 Q 96 [.ref 28, .int x1, .int x2, .int x3, .int x4, .int x5, .int x6, .int x7, .int x8] [] (mk D ct)) : RUN X C 76 Q 83 [.ref 28, .int x1, .int x2, .int x3, .int x4, .int x5, .int x6, .int x7, .int x8] [] (mk D ct) :=
  s_aload_n c76_83 rfl <|
  s_getf (ct := ct) c76_84 rfl (by decide) rfl <|
  s_getf (ct := ct) c76_87 rfl (by decide) rfl <|
  s_iload c76_90 rfl <|
  s_bald (ct := ct) c76_92 rfl hx92 <|
  s_ifeq c76_93 k1 k2
theorem b76_96 {x1 : Int32} {x2 : Int32} {x3 : Int32} {x4 : Int32} {x5 : Int32} {x6 : Int32} {x7 : Int32} {x8 : Int32} (kk : RUN X C 76 Q 26 [.ref 28, .int x1, .int x2, .int x3, .int x4, .int (x5 + nI 1), .int x6, .int x7, .int x8] [] (mk D ct)) : RUN X C 76 Q 96 [.ref 28, .int x1, .int x2, .int x3, .int x4, .int x5, .int x6, .int x7, .int x8] [] (mk D ct) :=
  s_goto c76_96 <|
  s_iinc c76_167 rfl True.intro zcI_1 <|
  s_goto c76_170 <|
  kk
theorem b76_99 {x1 : Int32} {x2 : Int32} {x3 : Int32} {x4 : Int32} {x5 : Int32} {x6 : Int32} {x7 : Int32} {x8 : Int32} (k1 : x7 = x6 → RUN X C 76 Q 106 [.ref 28, .int x1, .int x2, .int x3, .int x4, .int x5, .int x6, .int x7, .int x8] [] (mk D ct)) (k2 : ¬ x7 = x6 → RUN X C 76 Q 109 [.ref 28, .int x1, .int x2, .int x3, .int x4, .int x5, .int x6, .int x7, .int x8] [] (mk D ct)) : RUN X C 76 Q 99 [.ref 28, .int x1, .int x2, .int x3, .int x4, .int x5, .int x6, .int x7, .int x8] [] (mk D ct) :=
  s_iload c76_99 rfl <|
  s_iload c76_101 rfl <|
  s_icne c76_103 k1 k2
theorem b76_106 {x1 : Int32} {x2 : Int32} {x3 : Int32} {x4 : Int32} {x5 : Int32} {x6 : Int32} {x7 : Int32} {x8 : Int32} (kk : RUN X C 76 Q 26 [.ref 28, .int x1, .int x2, .int x3, .int x4, .int (x5 + nI 1), .int x6, .int x7, .int x8] [] (mk D ct)) : RUN X C 76 Q 106 [.ref 28, .int x1, .int x2, .int x3, .int x4, .int x5, .int x6, .int x7, .int x8] [] (mk D ct) :=
  s_goto c76_106 <|
  s_iinc c76_167 rfl True.intro zcI_1 <|
  s_goto c76_170 <|
  kk
theorem b76_109 {x1 : Int32} {x2 : Int32} {x3 : Int32} {x4 : Int32} {x5 : Int32} {x6 : Int32} {x7 : Int32} {x8 : Int32} {D1 : zD} {ct1 : zM} {j116 : Nat} (hx116 : zix x2 j116 3) (he : C 77 [.ref 28, .int x5, .int (nI 1), .int x6, .int (nI 0)] (mk D (u2 ct 29 j116 x5)) none (mk D1 ct1)) (kk : RUN X C 76 Q 127 [.ref 28, .int x1, .int x2, .int x3, .int x4, .int x5, .int x6, .int x7, .int x8] [] (mk D1 ct1)) : RUN X C 76 Q 109 [.ref 28, .int x1, .int x2, .int x3, .int x4, .int x5, .int x6, .int x7, .int x8] [] (mk D ct) :=
  s_aload_n c76_109 rfl <|
  s_getf (ct := ct) c76_110 rfl (by decide) rfl <|
  s_iload_n c76_113 rfl <|
  s_iload c76_114 rfl <|
  s_iast (ct := ct) c76_116 rfl hx116 <|
  s_aload_n c76_117 rfl <|
  s_iload c76_118 rfl <|
  s_const c76_120 zcI_1 <|
  s_iload c76_121 rfl <|
  s_const c76_123 zcI_0 <|
  s_callv (args := [.int x5, .int (nI 1), .int x6, .int (nI 0)]) (r := []) c76_124 rfl rfl (Nat.le_of_ble_eq_true rfl) rfl ⟨rfl, by decide⟩ he kk
theorem b76_127 {x1 : Int32} {x2 : Int32} {x3 : Int32} {x4 : Int32} {x5 : Int32} {x6 : Int32} {x7 : Int32} {x8 : Int32} (k1 : (ct 28 5) = (nI 0) → RUN X C 76 Q 146 [.ref 28, .int x1, .int x2, .int x3, .int x4, .int x5, .int x6, .int x7, .int x8] [.int (x2 + (nI 1)), .int (x5 + (nI 1)), .ref 28] (mk D ct)) (k2 : ¬ (ct 28 5) = (nI 0) → RUN X C 76 Q 142 [.ref 28, .int x1, .int x2, .int x3, .int x4, .int x5, .int x6, .int x7, .int x8] [.int (x2 + (nI 1)), .int (x5 + (nI 1)), .ref 28] (mk D ct)) : RUN X C 76 Q 127 [.ref 28, .int x1, .int x2, .int x3, .int x4, .int x5, .int x6, .int x7, .int x8] [] (mk D ct) :=
  s_aload_n c76_127 rfl <|
  s_iload c76_128 rfl <|
  s_const c76_130 zcI_1 <|
  s_iadd c76_131 <|
  s_iload_n c76_132 rfl <|
  s_const c76_133 zcI_1 <|
  s_iadd c76_134 <|
  s_aload_n c76_135 rfl <|
  s_getf (ct := ct) c76_136 rfl (by decide) rfl <|
  s_ifeq c76_139 k1 k2
theorem b76_142 {x1 : Int32} {x2 : Int32} {x3 : Int32} {x4 : Int32} {x5 : Int32} {x6 : Int32} {x7 : Int32} {x8 : Int32} {xs1 : Int32} {xs2 : Int32} {D1 : zD} {ct1 : zM} (he : C 73 [.ref 28, .int xs1, .int xs2, .int (nI 0)] (mk D ct) none (mk D1 ct1)) (kk : RUN X C 76 Q 156 [.ref 28, .int x1, .int x2, .int x3, .int x4, .int x5, .int x6, .int x7, .int x8] [] (mk D1 ct1)) : RUN X C 76 Q 142 [.ref 28, .int x1, .int x2, .int x3, .int x4, .int x5, .int x6, .int x7, .int x8] [.int xs2, .int xs1, .ref 28] (mk D ct) :=
  s_const c76_142 zcI_0 <|
  s_goto c76_143 <|
  s_callv (args := [.int xs1, .int xs2, .int (nI 0)]) (r := []) c76_153 rfl rfl (Nat.le_of_ble_eq_true rfl) rfl ⟨rfl, by decide⟩ he kk
theorem b76_146 {x1 : Int32} {x2 : Int32} {x3 : Int32} {x4 : Int32} {x5 : Int32} {x6 : Int32} {x7 : Int32} {x8 : Int32} {xs1 : Int32} {xs2 : Int32} {D1 : zD} {ct1 : zM} {v1 : Int32} (he : C 46 [.int x6] (mk D ct) (some (.int v1)) (mk D1 ct1)) (kk : RUN X C 76 Q 152 [.ref 28, .int x1, .int x2, .int x3, .int x4, .int x5, .int x6, .int x7, .int x8] [.int v1, .int x3, .int xs2, .int xs1, .ref 28] (mk D1 ct1)) : RUN X C 76 Q 146 [.ref 28, .int x1, .int x2, .int x3, .int x4, .int x5, .int x6, .int x7, .int x8] [.int xs2, .int xs1, .ref 28] (mk D ct) :=
  s_iload_n c76_146 rfl <|
  s_iload c76_147 rfl <|
  s_calls (args := [.int x6]) (r := [.int x3, .int xs2, .int xs1, .ref 28]) c76_149 rfl rfl (Nat.le_of_ble_eq_true rfl) he kk
theorem b76_152 {x1 : Int32} {x2 : Int32} {x3 : Int32} {x4 : Int32} {x5 : Int32} {x6 : Int32} {x7 : Int32} {x8 : Int32} {xs1 : Int32} {xs2 : Int32} {xs3 : Int32} {xs4 : Int32} {D1 : zD} {ct1 : zM} (he : C 73 [.ref 28, .int xs1, .int xs2, .int (xs3 + xs4)] (mk D ct) none (mk D1 ct1)) (kk : RUN X C 76 Q 156 [.ref 28, .int x1, .int x2, .int x3, .int x4, .int x5, .int x6, .int x7, .int x8] [] (mk D1 ct1)) : RUN X C 76 Q 152 [.ref 28, .int x1, .int x2, .int x3, .int x4, .int x5, .int x6, .int x7, .int x8] [.int xs4, .int xs3, .int xs2, .int xs1, .ref 28] (mk D ct) :=
  s_iadd c76_152 <|
  s_callv (args := [.int xs1, .int xs2, .int (xs3 + xs4)]) (r := []) c76_153 rfl rfl (Nat.le_of_ble_eq_true rfl) rfl ⟨rfl, by decide⟩ he kk
theorem b76_156 {x1 : Int32} {x2 : Int32} {x3 : Int32} {x4 : Int32} {x5 : Int32} {x6 : Int32} {x7 : Int32} {x8 : Int32} {D1 : zD} {ct1 : zM} (he : C 77 [.ref 28, .int x5, .int (nI 0), .int x7, .int x8] (mk D ct) none (mk D1 ct1)) (kk : RUN X C 76 Q 167 [.ref 28, .int x1, .int x2, .int x3, .int x4, .int x5, .int x6, .int x7, .int x8] [] (mk D1 ct1)) : RUN X C 76 Q 156 [.ref 28, .int x1, .int x2, .int x3, .int x4, .int x5, .int x6, .int x7, .int x8] [] (mk D ct) :=
  s_aload_n c76_156 rfl <|
  s_iload c76_157 rfl <|
  s_const c76_159 zcI_0 <|
  s_iload c76_160 rfl <|
  s_iload c76_162 rfl <|
  s_callv (args := [.int x5, .int (nI 0), .int x7, .int x8]) (r := []) c76_164 rfl rfl (Nat.le_of_ble_eq_true rfl) rfl ⟨rfl, by decide⟩ he kk
theorem b76_167 {x1 : Int32} {x2 : Int32} {x3 : Int32} {x4 : Int32} {x5 : Int32} {x6 : Int32} {x7 : Int32} {x8 : Int32} (kk : RUN X C 76 Q 26 [.ref 28, .int x1, .int x2, .int x3, .int x4, .int (x5 + nI 1), .int x6, .int x7, .int x8] [] (mk D ct)) : RUN X C 76 Q 167 [.ref 28, .int x1, .int x2, .int x3, .int x4, .int x5, .int x6, .int x7, .int x8] [] (mk D ct) :=
  s_iinc c76_167 rfl True.intro zcI_1 <|
  s_goto c76_170 <|
  kk
theorem b76_173 {x1 : Int32} {x2 : Int32} {x3 : Int32} {x4 : Int32} {x5 : Int32} {l6 : Value} {l7 : Value} {l8 : Value} (hq : Q none (mk D ct)) : RUN X C 76 Q 173 [.ref 28, .int x1, .int x2, .int x3, .int x4, .int x5, l6, l7, l8] [] (mk D ct) :=
  s_ret c76_173 rfl hq
-- ('PaintedTown$Search', 'change', '(IZII)V')
theorem b77_0 {x1 : Int32} {x2 : Int32} {x3 : Int32} {x4 : Int32} {D1 : zD} {ct1 : zM} {v1 : Int32} (he : C 30 [.ref 11, .int x1] (mk D ct) (some (.int v1)) (mk D1 ct1)) (kk : RUN X C 77 Q 8 [.ref 28, .int x1, .int x2, .int x3, .int x4] [.int v1] (mk D1 ct1)) : RUN X C 77 Q 0 [.ref 28, .int x1, .int x2, .int x3, .int x4] [] (mk D ct) :=
  s_aload_n c77_0 rfl <|
  s_getf (ct := ct) c77_1 rfl (by decide) rfl <|
  s_iload_n c77_4 rfl <|
  s_callv (args := [.int x1]) (r := []) c77_5 rfl rfl (Nat.le_of_ble_eq_true rfl) rfl ⟨rfl, by decide⟩ he kk
theorem b77_8 {x1 : Int32} {x2 : Int32} {x3 : Int32} {x4 : Int32} {xs0 : Int32} (k1 : xs0 = (nI 0) → RUN X C 77 Q 11 [.ref 28, .int x1, .int x2, .int x3, .int x4] [] (mk D ct)) (k2 : ¬ xs0 = (nI 0) → RUN X C 77 Q 12 [.ref 28, .int x1, .int x2, .int x3, .int x4] [] (mk D ct)) : RUN X C 77 Q 8 [.ref 28, .int x1, .int x2, .int x3, .int x4] [.int xs0] (mk D ct) :=
  s_ifne c77_8 k1 k2
theorem b77_11 {x1 : Int32} {x2 : Int32} {x3 : Int32} {x4 : Int32} (hq : Q none (mk D ct)) : RUN X C 77 Q 11 [.ref 28, .int x1, .int x2, .int x3, .int x4] [] (mk D ct) :=
  s_ret c77_11 rfl hq
theorem b77_12 {x1 : Int32} {x2 : Int32} {x3 : Int32} {x4 : Int32} (k1 : (ct 28 5) = (nI 0) → RUN X C 77 Q 32 [.ref 28, .int x1, .int x2, .int x3, .int x4] [] (mk D ct)) (k2 : ¬ (ct 28 5) = (nI 0) → RUN X C 77 Q 19 [.ref 28, .int x1, .int x2, .int x3, .int x4] [] (mk D ct)) : RUN X C 77 Q 12 [.ref 28, .int x1, .int x2, .int x3, .int x4] [] (mk D ct) :=
  s_aload_n c77_12 rfl <|
  s_getf (ct := ct) c77_13 rfl (by decide) rfl <|
  s_ifeq c77_16 k1 k2
theorem b77_19 {x1 : Int32} {x2 : Int32} {x3 : Int32} {x4 : Int32} {D1 : zD} {ct1 : zM} {j28 : Nat} (hx28 : zix x1 j28 36) (hb28 : x2 = nI 0 ∨ x2 = nI 1) (he : C 52 [.ref 26, .int x1] (mk D (u2 ct 25 j28 x2)) none (mk D1 ct1)) (kk : RUN X C 77 Q 51 [.ref 28, .int x1, .int x2, .int x3, .int x4] [] (mk D1 ct1)) : RUN X C 77 Q 19 [.ref 28, .int x1, .int x2, .int x3, .int x4] [] (mk D ct) :=
  s_aload_n c77_19 rfl <|
  s_getf (ct := ct) c77_20 rfl (by decide) rfl <|
  s_getf (ct := ct) c77_23 rfl (by decide) rfl <|
  s_iload_n c77_26 rfl <|
  s_iload_n c77_27 rfl <|
  s_bast (ct := ct) c77_28 rfl hx28 hb28 <|
  s_goto c77_29 <|
  s_aload_n c77_43 rfl <|
  s_getf (ct := (u2 ct 25 j28 x2)) c77_44 rfl (by decide) rfl <|
  s_iload_n c77_47 rfl <|
  s_callv (args := [.int x1]) (r := []) c77_48 rfl rfl (Nat.le_of_ble_eq_true rfl) rfl ⟨rfl, by decide⟩ he kk
theorem b77_32 {x1 : Int32} {x2 : Int32} {x3 : Int32} {x4 : Int32} {D1 : zD} {ct1 : zM} (he : C 31 [.ref 22, .int x1, .int x3, .int x4] (mk D ct) none (mk D1 ct1)) (kk : RUN X C 77 Q 43 [.ref 28, .int x1, .int x2, .int x3, .int x4] [] (mk D1 ct1)) : RUN X C 77 Q 32 [.ref 28, .int x1, .int x2, .int x3, .int x4] [] (mk D ct) :=
  s_aload_n c77_32 rfl <|
  s_getf (ct := ct) c77_33 rfl (by decide) rfl <|
  s_iload_n c77_36 rfl <|
  s_iload_n c77_37 rfl <|
  s_iload c77_38 rfl <|
  s_callv (args := [.int x1, .int x3, .int x4]) (r := []) c77_40 rfl rfl (Nat.le_of_ble_eq_true rfl) rfl ⟨rfl, by decide⟩ he kk
theorem b77_43 {x1 : Int32} {x2 : Int32} {x3 : Int32} {x4 : Int32} {D1 : zD} {ct1 : zM} (he : C 52 [.ref 26, .int x1] (mk D ct) none (mk D1 ct1)) (kk : RUN X C 77 Q 51 [.ref 28, .int x1, .int x2, .int x3, .int x4] [] (mk D1 ct1)) : RUN X C 77 Q 43 [.ref 28, .int x1, .int x2, .int x3, .int x4] [] (mk D ct) :=
  s_aload_n c77_43 rfl <|
  s_getf (ct := ct) c77_44 rfl (by decide) rfl <|
  s_iload_n c77_47 rfl <|
  s_callv (args := [.int x1]) (r := []) c77_48 rfl rfl (Nat.le_of_ble_eq_true rfl) rfl ⟨rfl, by decide⟩ he kk
theorem b77_51 {x1 : Int32} {x2 : Int32} {x3 : Int32} {x4 : Int32} {D1 : zD} {ct1 : zM} (he : C 52 [.ref 26, .int (x1 - (ct 11 1))] (mk D ct) none (mk D1 ct1)) (kk : RUN X C 77 Q 67 [.ref 28, .int x1, .int x2, .int x3, .int x4] [] (mk D1 ct1)) : RUN X C 77 Q 51 [.ref 28, .int x1, .int x2, .int x3, .int x4] [] (mk D ct) :=
  s_aload_n c77_51 rfl <|
  s_getf (ct := ct) c77_52 rfl (by decide) rfl <|
  s_iload_n c77_55 rfl <|
  s_aload_n c77_56 rfl <|
  s_getf (ct := ct) c77_57 rfl (by decide) rfl <|
  s_getf (ct := ct) c77_60 rfl (by decide) rfl <|
  s_isub c77_63 <|
  s_callv (args := [.int (x1 - (ct 11 1))]) (r := []) c77_64 rfl rfl (Nat.le_of_ble_eq_true rfl) rfl ⟨rfl, by decide⟩ he kk
theorem b77_67 {x1 : Int32} {x2 : Int32} {x3 : Int32} {x4 : Int32} {D1 : zD} {ct1 : zM} (he : C 52 [.ref 26, .int (x1 - (nI 1))] (mk D ct) none (mk D1 ct1)) (kk : RUN X C 77 Q 77 [.ref 28, .int x1, .int x2, .int x3, .int x4] [] (mk D1 ct1)) : RUN X C 77 Q 67 [.ref 28, .int x1, .int x2, .int x3, .int x4] [] (mk D ct) :=
  s_aload_n c77_67 rfl <|
  s_getf (ct := ct) c77_68 rfl (by decide) rfl <|
  s_iload_n c77_71 rfl <|
  s_const c77_72 zcI_1 <|
  s_isub c77_73 <|
  s_callv (args := [.int (x1 - (nI 1))]) (r := []) c77_74 rfl rfl (Nat.le_of_ble_eq_true rfl) rfl ⟨rfl, by decide⟩ he kk
theorem b77_77 {x1 : Int32} {x2 : Int32} {x3 : Int32} {x4 : Int32} {D1 : zD} {ct1 : zM} (he : C 52 [.ref 26, .int (x1 + (nI 1))] (mk D ct) none (mk D1 ct1)) (kk : RUN X C 77 Q 87 [.ref 28, .int x1, .int x2, .int x3, .int x4] [] (mk D1 ct1)) : RUN X C 77 Q 77 [.ref 28, .int x1, .int x2, .int x3, .int x4] [] (mk D ct) :=
  s_aload_n c77_77 rfl <|
  s_getf (ct := ct) c77_78 rfl (by decide) rfl <|
  s_iload_n c77_81 rfl <|
  s_const c77_82 zcI_1 <|
  s_iadd c77_83 <|
  s_callv (args := [.int (x1 + (nI 1))]) (r := []) c77_84 rfl rfl (Nat.le_of_ble_eq_true rfl) rfl ⟨rfl, by decide⟩ he kk
theorem b77_87 {x1 : Int32} {x2 : Int32} {x3 : Int32} {x4 : Int32} (hq : Q none (mk D ct)) : RUN X C 77 Q 87 [.ref 28, .int x1, .int x2, .int x3, .int x4] [] (mk D ct) :=
  s_ret c77_87 rfl hq
-- ('PaintedTown$Search', 'leastCost', '()I')
theorem b78_0 (k1 : (ct 28 6) = (nI 0) → RUN X C 78 Q 14 [.ref 28] [] (mk D ct)) (k2 : ¬ (ct 28 6) = (nI 0) → RUN X C 78 Q 7 [.ref 28] [] (mk D ct)) : RUN X C 78 Q 0 [.ref 28] [] (mk D ct) :=
  s_aload_n c78_0 rfl <|
  s_getf (ct := ct) c78_1 rfl (by decide) rfl <|
  s_ifeq c78_4 k1 k2
theorem b78_7 (hq : Q (some (.int (ct 28 7))) (mk D ct)) : RUN X C 78 Q 7 [.ref 28] [] (mk D ct) :=
  s_aload_n c78_7 rfl <|
  s_getf (ct := ct) c78_8 rfl (by decide) rfl <|
  s_goto c78_11 <|
  s_iret c78_16 (xrtI rfl) hq
theorem b78_14 (hq : Q (some (.int (-4))) (mk D ct)) : RUN X C 78 Q 14 [.ref 28] [] (mk D ct) :=
  s_bipush c78_14 zcB_m4 <|
  s_iret c78_16 (xrtI rfl) hq
-- ('PaintedTown$Search', 'chosenCell', '(I)I')
theorem b79_0 {x1 : Int32} (k1 : (ct 28 6) = (nI 0) → RUN X C 79 Q 36 [.ref 28, .int x1] [] (mk D ct)) (k2 : ¬ (ct 28 6) = (nI 0) → RUN X C 79 Q 7 [.ref 28, .int x1] [] (mk D ct)) : RUN X C 79 Q 0 [.ref 28, .int x1] [] (mk D ct) :=
  s_aload_n c79_0 rfl <|
  s_getf (ct := ct) c79_1 rfl (by decide) rfl <|
  s_ifeq c79_4 k1 k2
theorem b79_7 {x1 : Int32} (k1 : x1 < (nI 1) → RUN X C 79 Q 36 [.ref 28, .int x1] [] (mk D ct)) (k2 : ¬ x1 < (nI 1) → RUN X C 79 Q 12 [.ref 28, .int x1] [] (mk D ct)) : RUN X C 79 Q 7 [.ref 28, .int x1] [] (mk D ct) :=
  s_iload_n c79_7 rfl <|
  s_const c79_8 zcI_1 <|
  s_iclt c79_9 k1 k2
theorem b79_12 {x1 : Int32} (k1 : (ct 28 8) < x1 → RUN X C 79 Q 36 [.ref 28, .int x1] [] (mk D ct)) (k2 : ¬ (ct 28 8) < x1 → RUN X C 79 Q 20 [.ref 28, .int x1] [] (mk D ct)) : RUN X C 79 Q 12 [.ref 28, .int x1] [] (mk D ct) :=
  s_iload_n c79_12 rfl <|
  s_aload_n c79_13 rfl <|
  s_getf (ct := ct) c79_14 rfl (by decide) rfl <|
  s_icgt c79_17 k1 k2
theorem b79_20 {x1 : Int32} (k1 : (nI 3) < x1 → RUN X C 79 Q 36 [.ref 28, .int x1] [] (mk D ct)) (k2 : ¬ (nI 3) < x1 → RUN X C 79 Q 25 [.ref 28, .int x1] [] (mk D ct)) : RUN X C 79 Q 20 [.ref 28, .int x1] [] (mk D ct) :=
  s_iload_n c79_20 rfl <|
  s_const c79_21 zcI_3 <|
  s_icgt c79_22 k1 k2
theorem b79_25 {x1 : Int32} {j32 : Nat} (hx32 : zix (x1 - (nI 1)) j32 3) (hq : Q (some (.int (ct 30 j32))) (mk D ct)) : RUN X C 79 Q 25 [.ref 28, .int x1] [] (mk D ct) :=
  s_aload_n c79_25 rfl <|
  s_getf (ct := ct) c79_26 rfl (by decide) rfl <|
  s_iload_n c79_29 rfl <|
  s_const c79_30 zcI_1 <|
  s_isub c79_31 <|
  s_iald (ct := ct) c79_32 rfl hx32 <|
  s_goto c79_33 <|
  s_iret c79_38 (xrtI rfl) hq
theorem b79_36 {x1 : Int32} (hq : Q (some (.int (-4))) (mk D ct)) : RUN X C 79 Q 36 [.ref 28, .int x1] [] (mk D ct) :=
  s_bipush c79_36 zcB_m4 <|
  s_iret c79_38 (xrtI rfl) hq
-- ('PaintedTown', 'canvases', '(I)I')
theorem b80_0 {x1 : Int32} (k1 : x1 < (nI 0) → RUN X C 80 Q 9 [.ref 0, .int x1] [] (mk D ct)) (k2 : ¬ x1 < (nI 0) → RUN X C 80 Q 4 [.ref 0, .int x1] [] (mk D ct)) : RUN X C 80 Q 0 [.ref 0, .int x1] [] (mk D ct) :=
  s_iload_n c80_0 rfl <|
  s_iflt c80_1 k1 k2
theorem b80_4 {x1 : Int32} (k1 : x1 ≤ (nI 3) → RUN X C 80 Q 11 [.ref 0, .int x1] [] (mk D ct)) (k2 : ¬ x1 ≤ (nI 3) → RUN X C 80 Q 9 [.ref 0, .int x1] [] (mk D ct)) : RUN X C 80 Q 4 [.ref 0, .int x1] [] (mk D ct) :=
  s_iload_n c80_4 rfl <|
  s_const c80_5 zcI_3 <|
  s_icle c80_6 k1 k2
theorem b80_9 {x1 : Int32} (hq : Q (some (.int (-1))) (mk D ct)) : RUN X C 80 Q 9 [.ref 0, .int x1] [] (mk D ct) :=
  s_const c80_9 zcI_m1 <|
  s_iret c80_10 (xrtI rfl) hq
theorem b80_11 {x1 : Int32} {D1 : zD} {ct1 : zM} (he : C 42 [.ref 0] (mk D ct) none (mk D1 ct1)) (kk : RUN X C 80 Q 15 [.ref 0, .int x1] [] (mk D1 ct1)) : RUN X C 80 Q 11 [.ref 0, .int x1] [] (mk D ct) :=
  s_aload_n c80_11 rfl <|
  s_callv (args := []) (r := []) c80_12 rfl rfl (Nat.le_of_ble_eq_true rfl) rfl ⟨rfl, by decide⟩ he kk
theorem b80_15 {x1 : Int32} {D1 : zD} {ct1 : zM} (he : C 72 [.ref 28, .int (nI 1)] (mk D ct) none (mk D1 ct1)) (kk : RUN X C 80 Q 23 [.ref 0, .int x1] [] (mk D1 ct1)) : RUN X C 80 Q 15 [.ref 0, .int x1] [] (mk D ct) :=
  s_aload_n c80_15 rfl <|
  s_getf (ct := ct) c80_16 rfl (by decide) rfl <|
  s_const c80_19 zcI_1 <|
  s_callv (args := [.int (nI 1)]) (r := []) c80_20 rfl rfl (Nat.le_of_ble_eq_true rfl) rfl ⟨rfl, by decide⟩ he kk
theorem b80_23 {x1 : Int32} {D1 : zD} {ct1 : zM} (he : C 73 [.ref 28, .int (nI 0), .int (nI 0), .int (nI 0)] (mk D ct) none (mk D1 ct1)) (kk : RUN X C 80 Q 33 [.ref 0, .int x1] [] (mk D1 ct1)) : RUN X C 80 Q 23 [.ref 0, .int x1] [] (mk D ct) :=
  s_aload_n c80_23 rfl <|
  s_getf (ct := ct) c80_24 rfl (by decide) rfl <|
  s_const c80_27 zcI_0 <|
  s_const c80_28 zcI_0 <|
  s_const c80_29 zcI_0 <|
  s_callv (args := [.int (nI 0), .int (nI 0), .int (nI 0)]) (r := []) c80_30 rfl rfl (Nat.le_of_ble_eq_true rfl) rfl ⟨rfl, by decide⟩ he kk
theorem b80_33 {x1 : Int32} (k1 : x1 = (nI 0) → RUN X C 80 Q 37 [.ref 0, .int x1] [] (mk D ct)) (k2 : ¬ x1 = (nI 0) → RUN X C 80 Q 47 [.ref 0, .int x1] [] (mk D ct)) : RUN X C 80 Q 33 [.ref 0, .int x1] [] (mk D ct) :=
  s_iload_n c80_33 rfl <|
  s_ifne c80_34 k1 k2
theorem b80_37 {x1 : Int32} {D1 : zD} {ct1 : zM} {v1 : Int32} (he : C 81 [.ref 28] (mk D ct) (some (.int v1)) (mk D1 ct1)) (kk : RUN X C 80 Q 44 [.ref 0, .int x1] [.int v1] (mk D1 ct1)) : RUN X C 80 Q 37 [.ref 0, .int x1] [] (mk D ct) :=
  s_aload_n c80_37 rfl <|
  s_getf (ct := ct) c80_38 rfl (by decide) rfl <|
  s_callv (args := []) (r := []) c80_41 rfl rfl (Nat.le_of_ble_eq_true rfl) rfl ⟨rfl, by decide⟩ he kk
theorem b80_44 {x1 : Int32} {xs0 : Int32} (hq : Q (some (.int xs0)) (mk D ct)) : RUN X C 80 Q 44 [.ref 0, .int x1] [.int xs0] (mk D ct) :=
  s_goto c80_44 <|
  s_iret c80_55 (xrtI rfl) hq
theorem b80_47 {x1 : Int32} {D1 : zD} {ct1 : zM} {v1 : Int32} (he : C 79 [.ref 28, .int x1] (mk D ct) (some (.int v1)) (mk D1 ct1)) (kk : RUN X C 80 Q 55 [.ref 0, .int x1] [.int v1] (mk D1 ct1)) : RUN X C 80 Q 47 [.ref 0, .int x1] [] (mk D ct) :=
  s_aload_n c80_47 rfl <|
  s_getf (ct := ct) c80_48 rfl (by decide) rfl <|
  s_iload_n c80_51 rfl <|
  s_callv (args := [.int x1]) (r := []) c80_52 rfl rfl (Nat.le_of_ble_eq_true rfl) rfl ⟨rfl, by decide⟩ he kk
theorem b80_55 {x1 : Int32} {xs0 : Int32} (hq : Q (some (.int xs0)) (mk D ct)) : RUN X C 80 Q 55 [.ref 0, .int x1] [.int xs0] (mk D ct) :=
  s_iret c80_55 (xrtI rfl) hq
-- ('PaintedTown$Search', 'leastCount', '()I')
theorem b81_0 (k1 : (ct 28 6) = (nI 0) → RUN X C 81 Q 14 [.ref 28] [] (mk D ct)) (k2 : ¬ (ct 28 6) = (nI 0) → RUN X C 81 Q 7 [.ref 28] [] (mk D ct)) : RUN X C 81 Q 0 [.ref 28] [] (mk D ct) :=
  s_aload_n c81_0 rfl <|
  s_getf (ct := ct) c81_1 rfl (by decide) rfl <|
  s_ifeq c81_4 k1 k2
theorem b81_7 (hq : Q (some (.int (ct 28 8))) (mk D ct)) : RUN X C 81 Q 7 [.ref 28] [] (mk D ct) :=
  s_aload_n c81_7 rfl <|
  s_getf (ct := ct) c81_8 rfl (by decide) rfl <|
  s_goto c81_11 <|
  s_iret c81_16 (xrtI rfl) hq
theorem b81_14 (hq : Q (some (.int (-4))) (mk D ct)) : RUN X C 81 Q 14 [.ref 28] [] (mk D ct) :=
  s_bipush c81_14 zcB_m4 <|
  s_iret c81_16 (xrtI rfl) hq
-- ('PaintedTown', 'never', '(I)I')
theorem b82_0 {x1 : Int32} {l2 : Value} {l3 : Value} {l4 : Value} (k1 : x1 < (nI 0) → RUN X C 82 Q 15 [.ref 0, .int x1, l2, l3, l4] [] (mk D ct)) (k2 : ¬ x1 < (nI 0) → RUN X C 82 Q 4 [.ref 0, .int x1, l2, l3, l4] [] (mk D ct)) : RUN X C 82 Q 0 [.ref 0, .int x1, l2, l3, l4] [] (mk D ct) :=
  s_iload_n c82_0 rfl <|
  s_iflt c82_1 k1 k2
theorem b82_4 {x1 : Int32} {l2 : Value} {l3 : Value} {l4 : Value} (k1 : x1 < (ct 11 0) → RUN X C 82 Q 17 [.ref 0, .int x1, l2, l3, l4] [] (mk D ct)) (k2 : ¬ x1 < (ct 11 0) → RUN X C 82 Q 15 [.ref 0, .int x1, l2, l3, l4] [] (mk D ct)) : RUN X C 82 Q 4 [.ref 0, .int x1, l2, l3, l4] [] (mk D ct) :=
  s_iload_n c82_4 rfl <|
  s_aload_n c82_5 rfl <|
  s_getf (ct := ct) c82_6 rfl (by decide) rfl <|
  s_getf (ct := ct) c82_9 rfl (by decide) rfl <|
  s_iclt c82_12 k1 k2
theorem b82_15 {x1 : Int32} {l2 : Value} {l3 : Value} {l4 : Value} (hq : Q (some (.int (-1))) (mk D ct)) : RUN X C 82 Q 15 [.ref 0, .int x1, l2, l3, l4] [] (mk D ct) :=
  s_const c82_15 zcI_m1 <|
  s_iret c82_16 (xrtI rfl) hq
theorem b82_17 {x1 : Int32} {l2 : Value} {l3 : Value} {l4 : Value} {D1 : zD} {ct1 : zM} (he : C 42 [.ref 0] (mk D ct) none (mk D1 ct1)) (kk : RUN X C 82 Q 21 [.ref 0, .int x1, l2, l3, l4] [] (mk D1 ct1)) : RUN X C 82 Q 17 [.ref 0, .int x1, l2, l3, l4] [] (mk D ct) :=
  s_aload_n c82_17 rfl <|
  s_callv (args := []) (r := []) c82_18 rfl rfl (Nat.le_of_ble_eq_true rfl) rfl ⟨rfl, by decide⟩ he kk
theorem b82_21 {x1 : Int32} {l2 : Value} {l3 : Value} {l4 : Value} {D1 : zD} {ct1 : zM} {v1 : Int32} (he : C 36 [.ref 11] (mk D ct) (some (.int v1)) (mk D1 ct1)) (kk : RUN X C 82 Q 28 [.ref 0, .int x1, l2, l3, l4] [.int v1] (mk D1 ct1)) : RUN X C 82 Q 21 [.ref 0, .int x1, l2, l3, l4] [] (mk D ct) :=
  s_aload_n c82_21 rfl <|
  s_getf (ct := ct) c82_22 rfl (by decide) rfl <|
  s_callv (args := []) (r := []) c82_25 rfl rfl (Nat.le_of_ble_eq_true rfl) rfl ⟨rfl, by decide⟩ he kk
theorem b82_28 {x1 : Int32} {l2 : Value} {l3 : Value} {l4 : Value} {xs0 : Int32} (kk : RUN X C 82 Q 31 [.ref 0, .int x1, .int xs0, .int (nI 0), l4] [] (mk D ct)) : RUN X C 82 Q 28 [.ref 0, .int x1, l2, l3, l4] [.int xs0] (mk D ct) :=
  s_istore_n c82_28 (Nat.le_of_ble_eq_true rfl) True.intro <|
  s_const c82_29 zcI_0 <|
  s_istore_n c82_30 (Nat.le_of_ble_eq_true rfl) True.intro <|
  kk
theorem b82_31 {x1 : Int32} {x2 : Int32} {x3 : Int32} {l4 : Value} (k1 : x2 ≤ x3 → RUN X C 82 Q 84 [.ref 0, .int x1, .int x2, .int x3, l4] [] (mk D ct)) (k2 : ¬ x2 ≤ x3 → RUN X C 82 Q 36 [.ref 0, .int x1, .int x2, .int x3, l4] [] (mk D ct)) : RUN X C 82 Q 31 [.ref 0, .int x1, .int x2, .int x3, l4] [] (mk D ct) :=
  s_iload_n c82_31 rfl <|
  s_iload_n c82_32 rfl <|
  s_icge c82_33 k1 k2
theorem b82_36 {x1 : Int32} {x2 : Int32} {x3 : Int32} {l4 : Value} (k1 : (nI 36) ≤ x3 → RUN X C 82 Q 84 [.ref 0, .int x1, .int x2, .int x3, l4] [] (mk D ct)) (k2 : ¬ (nI 36) ≤ x3 → RUN X C 82 Q 42 [.ref 0, .int x1, .int x2, .int x3, l4] [] (mk D ct)) : RUN X C 82 Q 36 [.ref 0, .int x1, .int x2, .int x3, l4] [] (mk D ct) :=
  s_iload_n c82_36 rfl <|
  s_bipush c82_37 zcB_36 <|
  s_icge c82_39 k1 k2
theorem b82_42 {x1 : Int32} {x2 : Int32} {x3 : Int32} {l4 : Value} {j50 : Nat} (hx50 : zix x3 j50 36) {j61 : Nat} (hx61 : zix x3 j61 36) (k1 : (ct 23 j61) = (ct 12 j50) → RUN X C 82 Q 78 [.ref 0, .int x1, .int x2, .int x3, .int (ct 12 j50)] [] (mk D ct)) (k2 : ¬ (ct 23 j61) = (ct 12 j50) → RUN X C 82 Q 67 [.ref 0, .int x1, .int x2, .int x3, .int (ct 12 j50)] [] (mk D ct)) : RUN X C 82 Q 42 [.ref 0, .int x1, .int x2, .int x3, l4] [] (mk D ct) :=
  s_aload_n c82_42 rfl <|
  s_getf (ct := ct) c82_43 rfl (by decide) rfl <|
  s_getf (ct := ct) c82_46 rfl (by decide) rfl <|
  s_iload_n c82_49 rfl <|
  s_iald (ct := ct) c82_50 rfl hx50 <|
  s_istore c82_51 (Nat.le_of_ble_eq_true rfl) True.intro <|
  s_aload_n c82_53 rfl <|
  s_getf (ct := ct) c82_54 rfl (by decide) rfl <|
  s_getf (ct := ct) c82_57 rfl (by decide) rfl <|
  s_iload_n c82_60 rfl <|
  s_iald (ct := ct) c82_61 rfl hx61 <|
  s_iload c82_62 rfl <|
  s_iceq c82_64 k1 k2
theorem b82_67 {x1 : Int32} {x2 : Int32} {x3 : Int32} {x4 : Int32} {D1 : zD} {ct1 : zM} (he : C 31 [.ref 22, .int x3, .int x4, .int (nI 0)] (mk D ct) none (mk D1 ct1)) (kk : RUN X C 82 Q 78 [.ref 0, .int x1, .int x2, .int x3, .int x4] [] (mk D1 ct1)) : RUN X C 82 Q 67 [.ref 0, .int x1, .int x2, .int x3, .int x4] [] (mk D ct) :=
  s_aload_n c82_67 rfl <|
  s_getf (ct := ct) c82_68 rfl (by decide) rfl <|
  s_iload_n c82_71 rfl <|
  s_iload c82_72 rfl <|
  s_const c82_74 zcI_0 <|
  s_callv (args := [.int x3, .int x4, .int (nI 0)]) (r := []) c82_75 rfl rfl (Nat.le_of_ble_eq_true rfl) rfl ⟨rfl, by decide⟩ he kk
theorem b82_78 {x1 : Int32} {x2 : Int32} {x3 : Int32} {x4 : Int32} (kk : RUN X C 82 Q 31 [.ref 0, .int x1, .int x2, .int (x3 + nI 1), .int x4] [] (mk D ct)) : RUN X C 82 Q 78 [.ref 0, .int x1, .int x2, .int x3, .int x4] [] (mk D ct) :=
  s_iinc c82_78 rfl True.intro zcI_1 <|
  s_goto c82_81 <|
  kk
theorem b82_84 {x1 : Int32} {x2 : Int32} {x3 : Int32} {l4 : Value} (kk : RUN X C 82 Q 89 [.ref 0, .int x1, .int x2, .int (nI 0), .int (nI 0)] [] (mk D ct)) : RUN X C 82 Q 84 [.ref 0, .int x1, .int x2, .int x3, l4] [] (mk D ct) :=
  s_const c82_84 zcI_0 <|
  s_istore_n c82_85 (Nat.le_of_ble_eq_true rfl) True.intro <|
  s_const c82_86 zcI_0 <|
  s_istore c82_87 (Nat.le_of_ble_eq_true rfl) True.intro <|
  kk
theorem b82_89 {x1 : Int32} {x2 : Int32} {x3 : Int32} {x4 : Int32} (k1 : (ct 11 1) ≤ x4 → RUN X C 82 Q 136 [.ref 0, .int x1, .int x2, .int x3, .int x4] [] (mk D ct)) (k2 : ¬ (ct 11 1) ≤ x4 → RUN X C 82 Q 101 [.ref 0, .int x1, .int x2, .int x3, .int x4] [] (mk D ct)) : RUN X C 82 Q 89 [.ref 0, .int x1, .int x2, .int x3, .int x4] [] (mk D ct) :=
  s_iload c82_89 rfl <|
  s_aload_n c82_91 rfl <|
  s_getf (ct := ct) c82_92 rfl (by decide) rfl <|
  s_getf (ct := ct) c82_95 rfl (by decide) rfl <|
  s_icge c82_98 k1 k2
theorem b82_101 {x1 : Int32} {x2 : Int32} {x3 : Int32} {x4 : Int32} {D1 : zD} {ct1 : zM} {v1 : Int32} (he : C 45 [.ref 26, .int ((x1 * (ct 11 1)) + x4)] (mk D ct) (some (.int v1)) (mk D1 ct1)) (kk : RUN X C 82 Q 120 [.ref 0, .int x1, .int x2, .int x3, .int x4] [.int v1] (mk D1 ct1)) : RUN X C 82 Q 101 [.ref 0, .int x1, .int x2, .int x3, .int x4] [] (mk D ct) :=
  s_aload_n c82_101 rfl <|
  s_getf (ct := ct) c82_102 rfl (by decide) rfl <|
  s_iload_n c82_105 rfl <|
  s_aload_n c82_106 rfl <|
  s_getf (ct := ct) c82_107 rfl (by decide) rfl <|
  s_getf (ct := ct) c82_110 rfl (by decide) rfl <|
  s_imul c82_113 <|
  s_iload c82_114 rfl <|
  s_iadd c82_116 <|
  s_callv (args := [.int ((x1 * (ct 11 1)) + x4)]) (r := []) c82_117 rfl rfl (Nat.le_of_ble_eq_true rfl) rfl ⟨rfl, by decide⟩ he kk
theorem b82_120 {x1 : Int32} {x2 : Int32} {x3 : Int32} {x4 : Int32} {xs0 : Int32} (k1 : xs0 ≤ (nI 0) → RUN X C 82 Q 130 [.ref 0, .int x1, .int x2, .int x3, .int x4] [] (mk D ct)) (k2 : ¬ xs0 ≤ (nI 0) → RUN X C 82 Q 123 [.ref 0, .int x1, .int x2, .int x3, .int x4] [] (mk D ct)) : RUN X C 82 Q 120 [.ref 0, .int x1, .int x2, .int x3, .int x4] [.int xs0] (mk D ct) :=
  s_ifle c82_120 k1 k2
theorem b82_123 {x1 : Int32} {x2 : Int32} {x3 : Int32} {x4 : Int32} (kk : RUN X C 82 Q 89 [.ref 0, .int x1, .int x2, .int (x3 ||| ((nI 1) <<< (x4 &&& 31))), .int (x4 + nI 1)] [] (mk D ct)) : RUN X C 82 Q 123 [.ref 0, .int x1, .int x2, .int x3, .int x4] [] (mk D ct) :=
  s_iload_n c82_123 rfl <|
  s_const c82_124 zcI_1 <|
  s_iload c82_125 rfl <|
  s_ishl c82_127 <|
  s_ior c82_128 <|
  s_istore_n c82_129 (Nat.le_of_ble_eq_true rfl) True.intro <|
  s_iinc c82_130 rfl True.intro zcI_1 <|
  s_goto c82_133 <|
  kk
theorem b82_130 {x1 : Int32} {x2 : Int32} {x3 : Int32} {x4 : Int32} (kk : RUN X C 82 Q 89 [.ref 0, .int x1, .int x2, .int x3, .int (x4 + nI 1)] [] (mk D ct)) : RUN X C 82 Q 130 [.ref 0, .int x1, .int x2, .int x3, .int x4] [] (mk D ct) :=
  s_iinc c82_130 rfl True.intro zcI_1 <|
  s_goto c82_133 <|
  kk
theorem b82_136 {x1 : Int32} {x2 : Int32} {x3 : Int32} {x4 : Int32} (hq : Q (some (.int x3)) (mk D ct)) : RUN X C 82 Q 136 [.ref 0, .int x1, .int x2, .int x3, .int x4] [] (mk D ct) :=
  s_iload_n c82_136 rfl <|
  s_iret c82_137 (xrtI rfl) hq
-- ('PaintedTown', 'fined', '(II)I')
theorem b83_0 {x1 : Int32} {x2 : Int32} (k1 : x1 < (nI 0) → RUN X C 83 Q 20 [.ref 0, .int x1, .int x2] [] (mk D ct)) (k2 : ¬ x1 < (nI 0) → RUN X C 83 Q 4 [.ref 0, .int x1, .int x2] [] (mk D ct)) : RUN X C 83 Q 0 [.ref 0, .int x1, .int x2] [] (mk D ct) :=
  s_iload_n c83_0 rfl <|
  s_iflt c83_1 k1 k2
theorem b83_4 {x1 : Int32} {x2 : Int32} (k1 : (nI 4) ≤ x1 → RUN X C 83 Q 20 [.ref 0, .int x1, .int x2] [] (mk D ct)) (k2 : ¬ (nI 4) ≤ x1 → RUN X C 83 Q 9 [.ref 0, .int x1, .int x2] [] (mk D ct)) : RUN X C 83 Q 4 [.ref 0, .int x1, .int x2] [] (mk D ct) :=
  s_iload_n c83_4 rfl <|
  s_const c83_5 zcI_4 <|
  s_icge c83_6 k1 k2
theorem b83_9 {x1 : Int32} {x2 : Int32} (k1 : x2 < (nI 0) → RUN X C 83 Q 20 [.ref 0, .int x1, .int x2] [] (mk D ct)) (k2 : ¬ x2 < (nI 0) → RUN X C 83 Q 13 [.ref 0, .int x1, .int x2] [] (mk D ct)) : RUN X C 83 Q 9 [.ref 0, .int x1, .int x2] [] (mk D ct) :=
  s_iload_n c83_9 rfl <|
  s_iflt c83_10 k1 k2
theorem b83_13 {x1 : Int32} {x2 : Int32} (k1 : x2 ≤ (nI 999) → RUN X C 83 Q 22 [.ref 0, .int x1, .int x2] [] (mk D ct)) (k2 : ¬ x2 ≤ (nI 999) → RUN X C 83 Q 20 [.ref 0, .int x1, .int x2] [] (mk D ct)) : RUN X C 83 Q 13 [.ref 0, .int x1, .int x2] [] (mk D ct) :=
  s_iload_n c83_13 rfl <|
  s_sipush c83_14 zcS_999 <|
  s_icle c83_17 k1 k2
theorem b83_20 {x1 : Int32} {x2 : Int32} (hq : Q (some (.int (-1))) (mk D ct)) : RUN X C 83 Q 20 [.ref 0, .int x1, .int x2] [] (mk D ct) :=
  s_const c83_20 zcI_m1 <|
  s_iret c83_21 (xrtI rfl) hq
theorem b83_22 {x1 : Int32} {x2 : Int32} (k1 : (ct 0 10) < (nI 0) → RUN X C 83 Q 38 [.ref 0, .int x1, .int x2] [] (mk D ct)) (k2 : ¬ (ct 0 10) < (nI 0) → RUN X C 83 Q 29 [.ref 0, .int x1, .int x2] [] (mk D ct)) : RUN X C 83 Q 22 [.ref 0, .int x1, .int x2] [] (mk D ct) :=
  s_aload_n c83_22 rfl <|
  s_getf (ct := ct) c83_23 rfl (by decide) rfl <|
  s_iflt c83_26 k1 k2
theorem b83_29 {x1 : Int32} {x2 : Int32} (k1 : (ct 0 10) < (nI 6) → RUN X C 83 Q 41 [.ref 0, .int x1, .int x2] [] (mk D ct)) (k2 : ¬ (ct 0 10) < (nI 6) → RUN X C 83 Q 38 [.ref 0, .int x1, .int x2] [] (mk D ct)) : RUN X C 83 Q 29 [.ref 0, .int x1, .int x2] [] (mk D ct) :=
  s_aload_n c83_29 rfl <|
  s_getf (ct := ct) c83_30 rfl (by decide) rfl <|
  s_bipush c83_33 zcB_6 <|
  s_iclt c83_35 k1 k2
theorem b83_38 {x1 : Int32} {x2 : Int32} (hq : Q (some (.int (-3))) (mk D ct)) : RUN X C 83 Q 38 [.ref 0, .int x1, .int x2] [] (mk D ct) :=
  s_bipush c83_38 zcB_m3 <|
  s_iret c83_40 (xrtI rfl) hq
theorem b83_41 {x1 : Int32} {x2 : Int32} {j50 : Nat} (hx50 : zix (ct 0 10) j50 6) {j60 : Nat} (hx60 : zix (ct 0 10) j60 6) (hq : Q (some (.int ((ct 0 10) + (nI 1)))) (mk D (u2 (u2 (u2 ct 31 j50 x1) 32 j60 x2) 0 10 ((ct 0 10) + (nI 1))))) : RUN X C 83 Q 41 [.ref 0, .int x1, .int x2] [] (mk D ct) :=
  s_aload_n c83_41 rfl <|
  s_getf (ct := ct) c83_42 rfl (by decide) rfl <|
  s_aload_n c83_45 rfl <|
  s_getf (ct := ct) c83_46 rfl (by decide) rfl <|
  s_iload_n c83_49 rfl <|
  s_iast (ct := ct) c83_50 rfl hx50 <|
  s_aload_n c83_51 rfl <|
  s_getf (ct := (u2 ct 31 j50 x1)) c83_52 rfl (by decide) rfl <|
  s_aload_n c83_55 rfl <|
  s_getf (ct := (u2 ct 31 j50 x1)) c83_56 rfl (by decide) rfl <|
  s_iload_n c83_59 rfl <|
  s_iast (ct := (u2 ct 31 j50 x1)) c83_60 rfl hx60 <|
  s_aload_n c83_61 rfl <|
  s_dup c83_62 rfl <|
  s_getf (ct := (u2 (u2 ct 31 j50 x1) 32 j60 x2)) c83_63 rfl (by decide) rfl <|
  s_const c83_66 zcI_1 <|
  s_iadd c83_67 <|
  s_putf (ct := (u2 (u2 ct 31 j50 x1) 32 j60 x2)) c83_68 rfl (by decide) zint_0_10 xfit_0_10 <|
  s_aload_n c83_71 rfl <|
  s_getf (ct := (u2 (u2 (u2 ct 31 j50 x1) 32 j60 x2) 0 10 ((ct 0 10) + (nI 1)))) c83_72 rfl (by decide) rfl <|
  s_iret c83_75 (xrtI rfl) hq
-- ('PaintedTown', 'forget', '()I')
theorem b84_0 {l1 : Value} (hq : Q (some (.int (ct 0 10))) (mk D (u2 ct 0 10 (nI 0)))) : RUN X C 84 Q 0 [.ref 0, l1] [] (mk D ct) :=
  s_aload_n c84_0 rfl <|
  s_getf (ct := ct) c84_1 rfl (by decide) rfl <|
  s_istore_n c84_4 (Nat.le_of_ble_eq_true rfl) True.intro <|
  s_aload_n c84_5 rfl <|
  s_const c84_6 zcI_0 <|
  s_putf (ct := ct) c84_7 rfl (by decide) zint_0_10 xfit_0_10 <|
  s_iload_n c84_10 rfl <|
  s_iret c84_11 (xrtI rfl) hq
-- ('PaintedTown', 'moved', '(I)I')
theorem b85_0 {x1 : Int32} {l2 : Value} {l3 : Value} {l4 : Value} {l5 : Value} {l6 : Value} (k1 : x1 < (nI 0) → RUN X C 85 Q 9 [.ref 0, .int x1, l2, l3, l4, l5, l6] [] (mk D ct)) (k2 : ¬ x1 < (nI 0) → RUN X C 85 Q 4 [.ref 0, .int x1, l2, l3, l4, l5, l6] [] (mk D ct)) : RUN X C 85 Q 0 [.ref 0, .int x1, l2, l3, l4, l5, l6] [] (mk D ct) :=
  s_iload_n c85_0 rfl <|
  s_iflt c85_1 k1 k2
theorem b85_4 {x1 : Int32} {l2 : Value} {l3 : Value} {l4 : Value} {l5 : Value} {l6 : Value} (k1 : x1 ≤ (nI 1) → RUN X C 85 Q 11 [.ref 0, .int x1, l2, l3, l4, l5, l6] [] (mk D ct)) (k2 : ¬ x1 ≤ (nI 1) → RUN X C 85 Q 9 [.ref 0, .int x1, l2, l3, l4, l5, l6] [] (mk D ct)) : RUN X C 85 Q 4 [.ref 0, .int x1, l2, l3, l4, l5, l6] [] (mk D ct) :=
  s_iload_n c85_4 rfl <|
  s_const c85_5 zcI_1 <|
  s_icle c85_6 k1 k2
theorem b85_9 {x1 : Int32} {l2 : Value} {l3 : Value} {l4 : Value} {l5 : Value} {l6 : Value} (hq : Q (some (.int (-1))) (mk D ct)) : RUN X C 85 Q 9 [.ref 0, .int x1, l2, l3, l4, l5, l6] [] (mk D ct) :=
  s_const c85_9 zcI_m1 <|
  s_iret c85_10 (xrtI rfl) hq
theorem b85_11 {x1 : Int32} {l2 : Value} {l3 : Value} {l4 : Value} {l5 : Value} {l6 : Value} {D1 : zD} {ct1 : zM} (he : C 42 [.ref 0] (mk D ct) none (mk D1 ct1)) (kk : RUN X C 85 Q 15 [.ref 0, .int x1, l2, l3, l4, l5, l6] [] (mk D1 ct1)) : RUN X C 85 Q 11 [.ref 0, .int x1, l2, l3, l4, l5, l6] [] (mk D ct) :=
  s_aload_n c85_11 rfl <|
  s_callv (args := []) (r := []) c85_12 rfl rfl (Nat.le_of_ble_eq_true rfl) rfl ⟨rfl, by decide⟩ he kk
theorem b85_15 {x1 : Int32} {l2 : Value} {l3 : Value} {l4 : Value} {l5 : Value} {l6 : Value} {D1 : zD} {ct1 : zM} {v1 : Int32} (he : C 36 [.ref 11] (mk D ct) (some (.int v1)) (mk D1 ct1)) (kk : RUN X C 85 Q 22 [.ref 0, .int x1, l2, l3, l4, l5, l6] [.int v1] (mk D1 ct1)) : RUN X C 85 Q 15 [.ref 0, .int x1, l2, l3, l4, l5, l6] [] (mk D ct) :=
  s_aload_n c85_15 rfl <|
  s_getf (ct := ct) c85_16 rfl (by decide) rfl <|
  s_callv (args := []) (r := []) c85_19 rfl rfl (Nat.le_of_ble_eq_true rfl) rfl ⟨rfl, by decide⟩ he kk
theorem b85_22 {x1 : Int32} {l2 : Value} {l3 : Value} {l4 : Value} {l5 : Value} {l6 : Value} {xs0 : Int32} (kk : RUN X C 85 Q 32 [.ref 0, .int x1, .int xs0, .int (nI 0), .int (-4), .int (nI 0), l6] [] (mk D ct)) : RUN X C 85 Q 22 [.ref 0, .int x1, l2, l3, l4, l5, l6] [.int xs0] (mk D ct) :=
  s_istore_n c85_22 (Nat.le_of_ble_eq_true rfl) True.intro <|
  s_const c85_23 zcI_0 <|
  s_istore_n c85_24 (Nat.le_of_ble_eq_true rfl) True.intro <|
  s_bipush c85_25 zcB_m4 <|
  s_istore c85_27 (Nat.le_of_ble_eq_true rfl) True.intro <|
  s_const c85_29 zcI_0 <|
  s_istore c85_30 (Nat.le_of_ble_eq_true rfl) True.intro <|
  kk
theorem b85_32 {x1 : Int32} {x2 : Int32} {x3 : Int32} {x4 : Int32} {x5 : Int32} {l6 : Value} (k1 : x2 ≤ x5 → RUN X C 85 Q 148 [.ref 0, .int x1, .int x2, .int x3, .int x4, .int x5, l6] [] (mk D ct)) (k2 : ¬ x2 ≤ x5 → RUN X C 85 Q 38 [.ref 0, .int x1, .int x2, .int x3, .int x4, .int x5, l6] [] (mk D ct)) : RUN X C 85 Q 32 [.ref 0, .int x1, .int x2, .int x3, .int x4, .int x5, l6] [] (mk D ct) :=
  s_iload c85_32 rfl <|
  s_iload_n c85_34 rfl <|
  s_icge c85_35 k1 k2
theorem b85_38 {x1 : Int32} {x2 : Int32} {x3 : Int32} {x4 : Int32} {x5 : Int32} {l6 : Value} (k1 : (nI 36) ≤ x5 → RUN X C 85 Q 148 [.ref 0, .int x1, .int x2, .int x3, .int x4, .int x5, l6] [] (mk D ct)) (k2 : ¬ (nI 36) ≤ x5 → RUN X C 85 Q 45 [.ref 0, .int x1, .int x2, .int x3, .int x4, .int x5, l6] [] (mk D ct)) : RUN X C 85 Q 38 [.ref 0, .int x1, .int x2, .int x3, .int x4, .int x5, l6] [] (mk D ct) :=
  s_iload c85_38 rfl <|
  s_bipush c85_40 zcB_36 <|
  s_icge c85_42 k1 k2
theorem b85_45 {x1 : Int32} {x2 : Int32} {x3 : Int32} {x4 : Int32} {x5 : Int32} {l6 : Value} (kk : RUN X C 85 Q 51 [.ref 0, .int x1, .int x2, .int x3, .int x4, .int x5, .int (x5 + (nI 1))] [] (mk D ct)) : RUN X C 85 Q 45 [.ref 0, .int x1, .int x2, .int x3, .int x4, .int x5, l6] [] (mk D ct) :=
  s_iload c85_45 rfl <|
  s_const c85_47 zcI_1 <|
  s_iadd c85_48 <|
  s_istore c85_49 (Nat.le_of_ble_eq_true rfl) True.intro <|
  kk
theorem b85_51 {x1 : Int32} {x2 : Int32} {x3 : Int32} {x4 : Int32} {x5 : Int32} {x6 : Int32} (k1 : x2 ≤ x6 → RUN X C 85 Q 142 [.ref 0, .int x1, .int x2, .int x3, .int x4, .int x5, .int x6] [] (mk D ct)) (k2 : ¬ x2 ≤ x6 → RUN X C 85 Q 57 [.ref 0, .int x1, .int x2, .int x3, .int x4, .int x5, .int x6] [] (mk D ct)) : RUN X C 85 Q 51 [.ref 0, .int x1, .int x2, .int x3, .int x4, .int x5, .int x6] [] (mk D ct) :=
  s_iload c85_51 rfl <|
  s_iload_n c85_53 rfl <|
  s_icge c85_54 k1 k2
theorem b85_57 {x1 : Int32} {x2 : Int32} {x3 : Int32} {x4 : Int32} {x5 : Int32} {x6 : Int32} (k1 : (nI 36) ≤ x6 → RUN X C 85 Q 142 [.ref 0, .int x1, .int x2, .int x3, .int x4, .int x5, .int x6] [] (mk D ct)) (k2 : ¬ (nI 36) ≤ x6 → RUN X C 85 Q 64 [.ref 0, .int x1, .int x2, .int x3, .int x4, .int x5, .int x6] [] (mk D ct)) : RUN X C 85 Q 57 [.ref 0, .int x1, .int x2, .int x3, .int x4, .int x5, .int x6] [] (mk D ct) :=
  s_iload c85_57 rfl <|
  s_bipush c85_59 zcB_36 <|
  s_icge c85_61 k1 k2
theorem b85_64 {x1 : Int32} {x2 : Int32} {x3 : Int32} {x4 : Int32} {x5 : Int32} {x6 : Int32} {j73 : Nat} (hx73 : zix x5 j73 36) {j83 : Nat} (hx83 : zix x6 j83 36) (k1 : (ct 23 j73) = (ct 23 j83) → RUN X C 85 Q 87 [.ref 0, .int x1, .int x2, .int x3, .int x4, .int x5, .int x6] [] (mk D ct)) (k2 : ¬ (ct 23 j73) = (ct 23 j83) → RUN X C 85 Q 90 [.ref 0, .int x1, .int x2, .int x3, .int x4, .int x5, .int x6] [] (mk D ct)) : RUN X C 85 Q 64 [.ref 0, .int x1, .int x2, .int x3, .int x4, .int x5, .int x6] [] (mk D ct) :=
  s_aload_n c85_64 rfl <|
  s_getf (ct := ct) c85_65 rfl (by decide) rfl <|
  s_getf (ct := ct) c85_68 rfl (by decide) rfl <|
  s_iload c85_71 rfl <|
  s_iald (ct := ct) c85_73 rfl hx73 <|
  s_aload_n c85_74 rfl <|
  s_getf (ct := ct) c85_75 rfl (by decide) rfl <|
  s_getf (ct := ct) c85_78 rfl (by decide) rfl <|
  s_iload c85_81 rfl <|
  s_iald (ct := ct) c85_83 rfl hx83 <|
  s_icne c85_84 k1 k2
theorem b85_87 {x1 : Int32} {x2 : Int32} {x3 : Int32} {x4 : Int32} {x5 : Int32} {x6 : Int32} (kk : RUN X C 85 Q 51 [.ref 0, .int x1, .int x2, .int x3, .int x4, .int x5, .int (x6 + nI 1)] [] (mk D ct)) : RUN X C 85 Q 87 [.ref 0, .int x1, .int x2, .int x3, .int x4, .int x5, .int x6] [] (mk D ct) :=
  s_goto c85_87 <|
  s_iinc c85_136 rfl True.intro zcI_1 <|
  s_goto c85_139 <|
  kk
theorem b85_90 {x1 : Int32} {x2 : Int32} {x3 : Int32} {x4 : Int32} {x5 : Int32} {x6 : Int32} {D1 : zD} {ct1 : zM} (he : C 87 [.ref 22, .int x5, .int x6] (mk D ct) none (mk D1 ct1)) (kk : RUN X C 85 Q 101 [.ref 0, .int x1, .int x2, .int x3, .int x4, .int x5, .int x6] [] (mk D1 ct1)) : RUN X C 85 Q 90 [.ref 0, .int x1, .int x2, .int x3, .int x4, .int x5, .int x6] [] (mk D ct) :=
  s_aload_n c85_90 rfl <|
  s_getf (ct := ct) c85_91 rfl (by decide) rfl <|
  s_iload c85_94 rfl <|
  s_iload c85_96 rfl <|
  s_callv (args := [.int x5, .int x6]) (r := []) c85_98 rfl rfl (Nat.le_of_ble_eq_true rfl) rfl ⟨rfl, by decide⟩ he kk
theorem b85_101 {x1 : Int32} {x2 : Int32} {x3 : Int32} {x4 : Int32} {x5 : Int32} {x6 : Int32} {D1 : zD} {ct1 : zM} {v1 : Int32} (he : C 88 [.ref 0] (mk D ct) (some (.int v1)) (mk D1 ct1)) (kk : RUN X C 85 Q 105 [.ref 0, .int x1, .int x2, .int x3, .int x4, .int x5, .int x6] [.int v1] (mk D1 ct1)) : RUN X C 85 Q 101 [.ref 0, .int x1, .int x2, .int x3, .int x4, .int x5, .int x6] [] (mk D ct) :=
  s_aload_n c85_101 rfl <|
  s_callv (args := []) (r := []) c85_102 rfl rfl (Nat.le_of_ble_eq_true rfl) rfl ⟨rfl, by decide⟩ he kk
theorem b85_105 {x1 : Int32} {x2 : Int32} {x3 : Int32} {x4 : Int32} {x5 : Int32} {x6 : Int32} {xs0 : Int32} (k1 : xs0 = (nI 0) → RUN X C 85 Q 125 [.ref 0, .int x1, .int x2, .int x3, .int x4, .int x5, .int x6] [] (mk D ct)) (k2 : ¬ xs0 = (nI 0) → RUN X C 85 Q 108 [.ref 0, .int x1, .int x2, .int x3, .int x4, .int x5, .int x6] [] (mk D ct)) : RUN X C 85 Q 105 [.ref 0, .int x1, .int x2, .int x3, .int x4, .int x5, .int x6] [.int xs0] (mk D ct) :=
  s_ifeq c85_105 k1 k2
theorem b85_108 {x1 : Int32} {x2 : Int32} {x3 : Int32} {x4 : Int32} {x5 : Int32} {x6 : Int32} (k1 : x3 = (nI 0) → RUN X C 85 Q 112 [.ref 0, .int x1, .int x2, .int x3, .int x4, .int x5, .int x6] [] (mk D ct)) (k2 : ¬ x3 = (nI 0) → RUN X C 85 Q 122 [.ref 0, .int x1, .int x2, .int x3, .int x4, .int x5, .int x6] [] (mk D ct)) : RUN X C 85 Q 108 [.ref 0, .int x1, .int x2, .int x3, .int x4, .int x5, .int x6] [] (mk D ct) :=
  s_iload_n c85_108 rfl <|
  s_ifne c85_109 k1 k2
theorem b85_112 {x1 : Int32} {x2 : Int32} {x3 : Int32} {x4 : Int32} {x5 : Int32} {x6 : Int32} {D1 : zD} {ct1 : zM} (he : C 87 [.ref 22, .int x5, .int x6] (mk D ct) none (mk D1 ct1)) (kk : RUN X C 85 Q 136 [.ref 0, .int x1, .int x2, .int (x3 + nI 1), .int (((nI 100) * x5) + x6), .int x5, .int x6] [] (mk D1 ct1)) : RUN X C 85 Q 112 [.ref 0, .int x1, .int x2, .int x3, .int x4, .int x5, .int x6] [] (mk D ct) :=
  s_bipush c85_112 zcB_100 <|
  s_iload c85_114 rfl <|
  s_imul c85_116 <|
  s_iload c85_117 rfl <|
  s_iadd c85_119 <|
  s_istore c85_120 (Nat.le_of_ble_eq_true rfl) True.intro <|
  s_iinc c85_122 rfl True.intro zcI_1 <|
  s_aload_n c85_125 rfl <|
  s_getf (ct := ct) c85_126 rfl (by decide) rfl <|
  s_iload c85_129 rfl <|
  s_iload c85_131 rfl <|
  s_callv (args := [.int x5, .int x6]) (r := []) c85_133 rfl rfl (Nat.le_of_ble_eq_true rfl) rfl ⟨rfl, by decide⟩ he kk
theorem b85_122 {x1 : Int32} {x2 : Int32} {x3 : Int32} {x4 : Int32} {x5 : Int32} {x6 : Int32} {D1 : zD} {ct1 : zM} (he : C 87 [.ref 22, .int x5, .int x6] (mk D ct) none (mk D1 ct1)) (kk : RUN X C 85 Q 136 [.ref 0, .int x1, .int x2, .int (x3 + nI 1), .int x4, .int x5, .int x6] [] (mk D1 ct1)) : RUN X C 85 Q 122 [.ref 0, .int x1, .int x2, .int x3, .int x4, .int x5, .int x6] [] (mk D ct) :=
  s_iinc c85_122 rfl True.intro zcI_1 <|
  s_aload_n c85_125 rfl <|
  s_getf (ct := ct) c85_126 rfl (by decide) rfl <|
  s_iload c85_129 rfl <|
  s_iload c85_131 rfl <|
  s_callv (args := [.int x5, .int x6]) (r := []) c85_133 rfl rfl (Nat.le_of_ble_eq_true rfl) rfl ⟨rfl, by decide⟩ he kk
theorem b85_125 {x1 : Int32} {x2 : Int32} {x3 : Int32} {x4 : Int32} {x5 : Int32} {x6 : Int32} {D1 : zD} {ct1 : zM} (he : C 87 [.ref 22, .int x5, .int x6] (mk D ct) none (mk D1 ct1)) (kk : RUN X C 85 Q 136 [.ref 0, .int x1, .int x2, .int x3, .int x4, .int x5, .int x6] [] (mk D1 ct1)) : RUN X C 85 Q 125 [.ref 0, .int x1, .int x2, .int x3, .int x4, .int x5, .int x6] [] (mk D ct) :=
  s_aload_n c85_125 rfl <|
  s_getf (ct := ct) c85_126 rfl (by decide) rfl <|
  s_iload c85_129 rfl <|
  s_iload c85_131 rfl <|
  s_callv (args := [.int x5, .int x6]) (r := []) c85_133 rfl rfl (Nat.le_of_ble_eq_true rfl) rfl ⟨rfl, by decide⟩ he kk
theorem b85_136 {x1 : Int32} {x2 : Int32} {x3 : Int32} {x4 : Int32} {x5 : Int32} {x6 : Int32} (kk : RUN X C 85 Q 51 [.ref 0, .int x1, .int x2, .int x3, .int x4, .int x5, .int (x6 + nI 1)] [] (mk D ct)) : RUN X C 85 Q 136 [.ref 0, .int x1, .int x2, .int x3, .int x4, .int x5, .int x6] [] (mk D ct) :=
  s_iinc c85_136 rfl True.intro zcI_1 <|
  s_goto c85_139 <|
  kk
theorem b85_142 {x1 : Int32} {x2 : Int32} {x3 : Int32} {x4 : Int32} {x5 : Int32} {x6 : Int32} (kk : RUN X C 85 Q 32 [.ref 0, .int x1, .int x2, .int x3, .int x4, .int (x5 + nI 1), .int x6] [] (mk D ct)) : RUN X C 85 Q 142 [.ref 0, .int x1, .int x2, .int x3, .int x4, .int x5, .int x6] [] (mk D ct) :=
  s_iinc c85_142 rfl True.intro zcI_1 <|
  s_goto c85_145 <|
  kk
theorem b85_148 {x1 : Int32} {x2 : Int32} {x3 : Int32} {x4 : Int32} {x5 : Int32} {l6 : Value} (k1 : x1 = (nI 0) → RUN X C 85 Q 152 [.ref 0, .int x1, .int x2, .int x3, .int x4, .int x5, l6] [] (mk D ct)) (k2 : ¬ x1 = (nI 0) → RUN X C 85 Q 156 [.ref 0, .int x1, .int x2, .int x3, .int x4, .int x5, l6] [] (mk D ct)) : RUN X C 85 Q 148 [.ref 0, .int x1, .int x2, .int x3, .int x4, .int x5, l6] [] (mk D ct) :=
  s_iload_n c85_148 rfl <|
  s_ifne c85_149 k1 k2
theorem b85_152 {x1 : Int32} {x2 : Int32} {x3 : Int32} {x4 : Int32} {x5 : Int32} {l6 : Value} (hq : Q (some (.int x3)) (mk D ct)) : RUN X C 85 Q 152 [.ref 0, .int x1, .int x2, .int x3, .int x4, .int x5, l6] [] (mk D ct) :=
  s_iload_n c85_152 rfl <|
  s_goto c85_153 <|
  s_iret c85_158 (xrtI rfl) hq
theorem b85_156 {x1 : Int32} {x2 : Int32} {x3 : Int32} {x4 : Int32} {x5 : Int32} {l6 : Value} (hq : Q (some (.int x4)) (mk D ct)) : RUN X C 85 Q 156 [.ref 0, .int x1, .int x2, .int x3, .int x4, .int x5, l6] [] (mk D ct) :=
  s_iload c85_156 rfl <|
  s_iret c85_158 (xrtI rfl) hq
-- ('PaintedTown$Town', 'exchange', '(II)V')
theorem b87_0 {a0 : Nat} (ha0 : zsh D a0 = (3, 0)) {x1 : Int32} {x2 : Int32} {l3 : Value} {l4 : Value} (k1 : x1 < (nI 0) → RUN X C 87 Q 20 [.ref a0, .int x1, .int x2, l3, l4] [] (mk D ct)) (k2 : ¬ x1 < (nI 0) → RUN X C 87 Q 4 [.ref a0, .int x1, .int x2, l3, l4] [] (mk D ct)) : RUN X C 87 Q 0 [.ref a0, .int x1, .int x2, l3, l4] [] (mk D ct) :=
  s_iload_n c87_0 rfl <|
  s_iflt c87_1 k1 k2
theorem b87_4 {a0 : Nat} (ha0 : zsh D a0 = (3, 0)) {x1 : Int32} {x2 : Int32} {l3 : Value} {l4 : Value} (k1 : (nI 36) ≤ x1 → RUN X C 87 Q 20 [.ref a0, .int x1, .int x2, l3, l4] [] (mk D ct)) (k2 : ¬ (nI 36) ≤ x1 → RUN X C 87 Q 10 [.ref a0, .int x1, .int x2, l3, l4] [] (mk D ct)) : RUN X C 87 Q 4 [.ref a0, .int x1, .int x2, l3, l4] [] (mk D ct) :=
  s_iload_n c87_4 rfl <|
  s_bipush c87_5 zcB_36 <|
  s_icge c87_7 k1 k2
theorem b87_10 {a0 : Nat} (ha0 : zsh D a0 = (3, 0)) {x1 : Int32} {x2 : Int32} {l3 : Value} {l4 : Value} (k1 : x2 < (nI 0) → RUN X C 87 Q 20 [.ref a0, .int x1, .int x2, l3, l4] [] (mk D ct)) (k2 : ¬ x2 < (nI 0) → RUN X C 87 Q 14 [.ref a0, .int x1, .int x2, l3, l4] [] (mk D ct)) : RUN X C 87 Q 10 [.ref a0, .int x1, .int x2, l3, l4] [] (mk D ct) :=
  s_iload_n c87_10 rfl <|
  s_iflt c87_11 k1 k2
theorem b87_14 {a0 : Nat} (ha0 : zsh D a0 = (3, 0)) {x1 : Int32} {x2 : Int32} {l3 : Value} {l4 : Value} (k1 : x2 < (nI 36) → RUN X C 87 Q 21 [.ref a0, .int x1, .int x2, l3, l4] [] (mk D ct)) (k2 : ¬ x2 < (nI 36) → RUN X C 87 Q 20 [.ref a0, .int x1, .int x2, l3, l4] [] (mk D ct)) : RUN X C 87 Q 14 [.ref a0, .int x1, .int x2, l3, l4] [] (mk D ct) :=
  s_iload_n c87_14 rfl <|
  s_bipush c87_15 zcB_36 <|
  s_iclt c87_17 k1 k2
theorem b87_20 {a0 : Nat} (ha0 : zsh D a0 = (3, 0)) {x1 : Int32} {x2 : Int32} {l3 : Value} {l4 : Value} (hq : Q none (mk D ct)) : RUN X C 87 Q 20 [.ref a0, .int x1, .int x2, l3, l4] [] (mk D ct) :=
  s_ret c87_20 rfl hq
theorem b87_21 {a0 : Nat} (ha0 : zsh D a0 = (3, 0)) {x1 : Int32} {x2 : Int32} {l3 : Value} {l4 : Value} {D1 : zD} {ct1 : zM} {j26 : Nat} (hx26 : zix x1 j26 36) {j33 : Nat} (hx33 : zix x1 j33 36) {j43 : Nat} (hx43 : zix x2 j43 36) {j49 : Nat} (hx49 : zix x2 j49 36) (he : C 31 [.ref a0, .int x1, .int (ct (a0 + 1) j43), .int (ct (a0 + 2) j49)] (mk D ct) none (mk D1 ct1)) (kk : RUN X C 87 Q 53 [.ref a0, .int x1, .int x2, .int (ct (a0 + 1) j26), .int (ct (a0 + 2) j33)] [] (mk D1 ct1)) : RUN X C 87 Q 21 [.ref a0, .int x1, .int x2, l3, l4] [] (mk D ct) :=
  s_aload_n c87_21 rfl <|
  s_getf (ct := ct) c87_22 ha0 (by decide) rfl <|
  s_iload_n c87_25 rfl <|
  s_iald (ct := ct) c87_26 (zsh_t1 ha0) hx26 <|
  s_istore_n c87_27 (Nat.le_of_ble_eq_true rfl) True.intro <|
  s_aload_n c87_28 rfl <|
  s_getf (ct := ct) c87_29 ha0 (by decide) rfl <|
  s_iload_n c87_32 rfl <|
  s_iald (ct := ct) c87_33 (zsh_t2 ha0) hx33 <|
  s_istore c87_34 (Nat.le_of_ble_eq_true rfl) True.intro <|
  s_aload_n c87_36 rfl <|
  s_iload_n c87_37 rfl <|
  s_aload_n c87_38 rfl <|
  s_getf (ct := ct) c87_39 ha0 (by decide) rfl <|
  s_iload_n c87_42 rfl <|
  s_iald (ct := ct) c87_43 (zsh_t1 ha0) hx43 <|
  s_aload_n c87_44 rfl <|
  s_getf (ct := ct) c87_45 ha0 (by decide) rfl <|
  s_iload_n c87_48 rfl <|
  s_iald (ct := ct) c87_49 (zsh_t2 ha0) hx49 <|
  s_callv (args := [.int x1, .int (ct (a0 + 1) j43), .int (ct (a0 + 2) j49)]) (r := []) c87_50 rfl rfl (Nat.le_of_ble_eq_true rfl) ha0 ⟨rfl, by decide⟩ he kk
theorem b87_53 {a0 : Nat} (ha0 : zsh D a0 = (3, 0)) {x1 : Int32} {x2 : Int32} {x3 : Int32} {x4 : Int32} {D1 : zD} {ct1 : zM} (he : C 31 [.ref a0, .int x2, .int x3, .int x4] (mk D ct) none (mk D1 ct1)) (kk : RUN X C 87 Q 61 [.ref a0, .int x1, .int x2, .int x3, .int x4] [] (mk D1 ct1)) : RUN X C 87 Q 53 [.ref a0, .int x1, .int x2, .int x3, .int x4] [] (mk D ct) :=
  s_aload_n c87_53 rfl <|
  s_iload_n c87_54 rfl <|
  s_iload_n c87_55 rfl <|
  s_iload c87_56 rfl <|
  s_callv (args := [.int x2, .int x3, .int x4]) (r := []) c87_58 rfl rfl (Nat.le_of_ble_eq_true rfl) ha0 ⟨rfl, by decide⟩ he kk
theorem b87_61 {a0 : Nat} (ha0 : zsh D a0 = (3, 0)) {x1 : Int32} {x2 : Int32} {x3 : Int32} {x4 : Int32} (hq : Q none (mk D ct)) : RUN X C 87 Q 61 [.ref a0, .int x1, .int x2, .int x3, .int x4] [] (mk D ct) :=
  s_ret c87_61 rfl hq
-- ('PaintedTown', 'allIsSo', '()Z')
theorem b88_0 {l1 : Value} (kk : RUN X C 88 Q 2 [.ref 0, .int (nI 0)] [] (mk D ct)) : RUN X C 88 Q 0 [.ref 0, l1] [] (mk D ct) :=
  s_const c88_0 zcI_0 <|
  s_istore_n c88_1 (Nat.le_of_ble_eq_true rfl) True.intro <|
  kk
theorem b88_2 {x1 : Int32} (k1 : (ct 0 10) ≤ x1 → RUN X C 88 Q 53 [.ref 0, .int x1] [] (mk D ct)) (k2 : ¬ (ct 0 10) ≤ x1 → RUN X C 88 Q 10 [.ref 0, .int x1] [] (mk D ct)) : RUN X C 88 Q 2 [.ref 0, .int x1] [] (mk D ct) :=
  s_iload_n c88_2 rfl <|
  s_aload_n c88_3 rfl <|
  s_getf (ct := ct) c88_4 rfl (by decide) rfl <|
  s_icge c88_7 k1 k2
theorem b88_10 {x1 : Int32} (k1 : (nI 6) ≤ x1 → RUN X C 88 Q 53 [.ref 0, .int x1] [] (mk D ct)) (k2 : ¬ (nI 6) ≤ x1 → RUN X C 88 Q 16 [.ref 0, .int x1] [] (mk D ct)) : RUN X C 88 Q 10 [.ref 0, .int x1] [] (mk D ct) :=
  s_iload_n c88_10 rfl <|
  s_bipush c88_11 zcB_6 <|
  s_icge c88_13 k1 k2
theorem b88_16 {x1 : Int32} {D1 : zD} {ct1 : zM} {v1 : Int32} {j25 : Nat} (hx25 : zix x1 j25 6) (he : C 51 [.ref 26] (mk D (u2 ct 22 3 (ct 31 j25))) (some (.int v1)) (mk D1 ct1)) (kk : RUN X C 88 Q 36 [.ref 0, .int x1] [.int v1] (mk D1 ct1)) : RUN X C 88 Q 16 [.ref 0, .int x1] [] (mk D ct) :=
  s_aload_n c88_16 rfl <|
  s_getf (ct := ct) c88_17 rfl (by decide) rfl <|
  s_aload_n c88_20 rfl <|
  s_getf (ct := ct) c88_21 rfl (by decide) rfl <|
  s_iload_n c88_24 rfl <|
  s_iald (ct := ct) c88_25 rfl hx25 <|
  s_putf (ct := ct) c88_26 rfl (by decide) zint_3_3 xfit_3_3 <|
  s_aload_n c88_29 rfl <|
  s_getf (ct := (u2 ct 22 3 (ct 31 j25))) c88_30 rfl (by decide) rfl <|
  s_callv (args := []) (r := []) c88_33 rfl rfl (Nat.le_of_ble_eq_true rfl) rfl ⟨rfl, by decide⟩ he kk
theorem b88_36 {x1 : Int32} {xs0 : Int32} {j41 : Nat} (hx41 : zix x1 j41 6) (k1 : xs0 = (ct 32 j41) → RUN X C 88 Q 47 [.ref 0, .int x1] [] (mk D ct)) (k2 : ¬ xs0 = (ct 32 j41) → RUN X C 88 Q 45 [.ref 0, .int x1] [] (mk D ct)) : RUN X C 88 Q 36 [.ref 0, .int x1] [.int xs0] (mk D ct) :=
  s_aload_n c88_36 rfl <|
  s_getf (ct := ct) c88_37 rfl (by decide) rfl <|
  s_iload_n c88_40 rfl <|
  s_iald (ct := ct) c88_41 rfl hx41 <|
  s_iceq c88_42 k1 k2
theorem b88_45 {x1 : Int32} (hq : Q (some (.int (nI 0))) (mk D ct)) : RUN X C 88 Q 45 [.ref 0, .int x1] [] (mk D ct) :=
  s_const c88_45 zcI_0 <|
  s_iret c88_46 (xrtZ rfl (Or.inl rfl)) hq
theorem b88_47 {x1 : Int32} (kk : RUN X C 88 Q 2 [.ref 0, .int (x1 + nI 1)] [] (mk D ct)) : RUN X C 88 Q 47 [.ref 0, .int x1] [] (mk D ct) :=
  s_iinc c88_47 rfl True.intro zcI_1 <|
  s_goto c88_50 <|
  kk
theorem b88_53 {x1 : Int32} (hq : Q (some (.int (nI 1))) (mk D ct)) : RUN X C 88 Q 53 [.ref 0, .int x1] [] (mk D ct) :=
  s_const c88_53 zcI_1 <|
  s_iret c88_54 (xrtZ rfl (Or.inr rfl)) hq
-- ('PaintedTown', 'frames', '(I)I')
theorem b89_0 {x1 : Int32} {l2 : Value} {l3 : Value} {l4 : Value} (k1 : x1 < (nI 0) → RUN X C 89 Q 9 [.ref 0, .int x1, l2, l3, l4] [] (mk D ct)) (k2 : ¬ x1 < (nI 0) → RUN X C 89 Q 4 [.ref 0, .int x1, l2, l3, l4] [] (mk D ct)) : RUN X C 89 Q 0 [.ref 0, .int x1, l2, l3, l4] [] (mk D ct) :=
  s_iload_n c89_0 rfl <|
  s_iflt c89_1 k1 k2
theorem b89_4 {x1 : Int32} {l2 : Value} {l3 : Value} {l4 : Value} (k1 : x1 ≤ (nI 1) → RUN X C 89 Q 11 [.ref 0, .int x1, l2, l3, l4] [] (mk D ct)) (k2 : ¬ x1 ≤ (nI 1) → RUN X C 89 Q 9 [.ref 0, .int x1, l2, l3, l4] [] (mk D ct)) : RUN X C 89 Q 4 [.ref 0, .int x1, l2, l3, l4] [] (mk D ct) :=
  s_iload_n c89_4 rfl <|
  s_const c89_5 zcI_1 <|
  s_icle c89_6 k1 k2
theorem b89_9 {x1 : Int32} {l2 : Value} {l3 : Value} {l4 : Value} (hq : Q (some (.int (-1))) (mk D ct)) : RUN X C 89 Q 9 [.ref 0, .int x1, l2, l3, l4] [] (mk D ct) :=
  s_const c89_9 zcI_m1 <|
  s_iret c89_10 (xrtI rfl) hq
theorem b89_11 {x1 : Int32} {l2 : Value} {l3 : Value} {l4 : Value} {D1 : zD} {ct1 : zM} (he : C 42 [.ref 0] (mk D ct) none (mk D1 ct1)) (kk : RUN X C 89 Q 15 [.ref 0, .int x1, l2, l3, l4] [] (mk D1 ct1)) : RUN X C 89 Q 11 [.ref 0, .int x1, l2, l3, l4] [] (mk D ct) :=
  s_aload_n c89_11 rfl <|
  s_callv (args := []) (r := []) c89_12 rfl rfl (Nat.le_of_ble_eq_true rfl) rfl ⟨rfl, by decide⟩ he kk
theorem b89_15 {x1 : Int32} {l2 : Value} {l3 : Value} {l4 : Value} (kk : RUN X C 89 Q 23 [.ref 0, .int x1, .int (nI 0), .int (-4), .int (nI 0)] [] (mk D ct)) : RUN X C 89 Q 15 [.ref 0, .int x1, l2, l3, l4] [] (mk D ct) :=
  s_const c89_15 zcI_0 <|
  s_istore_n c89_16 (Nat.le_of_ble_eq_true rfl) True.intro <|
  s_bipush c89_17 zcB_m4 <|
  s_istore_n c89_19 (Nat.le_of_ble_eq_true rfl) True.intro <|
  s_const c89_20 zcI_0 <|
  s_istore c89_21 (Nat.le_of_ble_eq_true rfl) True.intro <|
  kk
theorem b89_23 {x1 : Int32} {x2 : Int32} {x3 : Int32} {x4 : Int32} {D1 : zD} {ct1 : zM} {v1 : Int32} (he : C 36 [.ref 11] (mk D ct) (some (.int v1)) (mk D1 ct1)) (kk : RUN X C 89 Q 32 [.ref 0, .int x1, .int x2, .int x3, .int x4] [.int v1, .int x4] (mk D1 ct1)) : RUN X C 89 Q 23 [.ref 0, .int x1, .int x2, .int x3, .int x4] [] (mk D ct) :=
  s_iload c89_23 rfl <|
  s_aload_n c89_25 rfl <|
  s_getf (ct := ct) c89_26 rfl (by decide) rfl <|
  s_callv (args := []) (r := [.int x4]) c89_29 rfl rfl (Nat.le_of_ble_eq_true rfl) rfl ⟨rfl, by decide⟩ he kk
theorem b89_32 {x1 : Int32} {x2 : Int32} {x3 : Int32} {x4 : Int32} {xs0 : Int32} {xs1 : Int32} (k1 : xs1 ≤ xs0 → RUN X C 89 Q 70 [.ref 0, .int x1, .int x2, .int x3, .int x4] [] (mk D ct)) (k2 : ¬ xs1 ≤ xs0 → RUN X C 89 Q 35 [.ref 0, .int x1, .int x2, .int x3, .int x4] [] (mk D ct)) : RUN X C 89 Q 32 [.ref 0, .int x1, .int x2, .int x3, .int x4] [.int xs1, .int xs0] (mk D ct) :=
  s_icge c89_32 k1 k2
theorem b89_35 {x1 : Int32} {x2 : Int32} {x3 : Int32} {x4 : Int32} {D1 : zD} {ct1 : zM} {v1 : Int32} (he : C 88 [.ref 0] (mk D (u2 ct 22 4 x4)) (some (.int v1)) (mk D1 ct1)) (kk : RUN X C 89 Q 48 [.ref 0, .int x1, .int x2, .int x3, .int x4] [.int v1] (mk D1 ct1)) : RUN X C 89 Q 35 [.ref 0, .int x1, .int x2, .int x3, .int x4] [] (mk D ct) :=
  s_aload_n c89_35 rfl <|
  s_getf (ct := ct) c89_36 rfl (by decide) rfl <|
  s_iload c89_39 rfl <|
  s_putf (ct := ct) c89_41 rfl (by decide) zint_3_4 xfit_3_4 <|
  s_aload_n c89_44 rfl <|
  s_callv (args := []) (r := []) c89_45 rfl rfl (Nat.le_of_ble_eq_true rfl) rfl ⟨rfl, by decide⟩ he kk
theorem b89_48 {x1 : Int32} {x2 : Int32} {x3 : Int32} {x4 : Int32} {xs0 : Int32} (k1 : xs0 = (nI 0) → RUN X C 89 Q 51 [.ref 0, .int x1, .int x2, .int x3, .int x4] [] (mk D ct)) (k2 : ¬ xs0 = (nI 0) → RUN X C 89 Q 54 [.ref 0, .int x1, .int x2, .int x3, .int x4] [] (mk D ct)) : RUN X C 89 Q 48 [.ref 0, .int x1, .int x2, .int x3, .int x4] [.int xs0] (mk D ct) :=
  s_ifne c89_48 k1 k2
theorem b89_51 {x1 : Int32} {x2 : Int32} {x3 : Int32} {x4 : Int32} (kk : RUN X C 89 Q 23 [.ref 0, .int x1, .int x2, .int x3, .int (x4 + nI 1)] [] (mk D ct)) : RUN X C 89 Q 51 [.ref 0, .int x1, .int x2, .int x3, .int x4] [] (mk D ct) :=
  s_goto c89_51 <|
  s_iinc c89_64 rfl True.intro zcI_1 <|
  s_goto c89_67 <|
  kk
theorem b89_54 {x1 : Int32} {x2 : Int32} {x3 : Int32} {x4 : Int32} (k1 : x2 = (nI 0) → RUN X C 89 Q 58 [.ref 0, .int x1, .int x2, .int x3, .int x4] [] (mk D ct)) (k2 : ¬ x2 = (nI 0) → RUN X C 89 Q 61 [.ref 0, .int x1, .int x2, .int x3, .int x4] [] (mk D ct)) : RUN X C 89 Q 54 [.ref 0, .int x1, .int x2, .int x3, .int x4] [] (mk D ct) :=
  s_iload_n c89_54 rfl <|
  s_ifne c89_55 k1 k2
theorem b89_58 {x1 : Int32} {x2 : Int32} {x3 : Int32} {x4 : Int32} (kk : RUN X C 89 Q 23 [.ref 0, .int x1, .int (x2 + nI 1), .int x4, .int (x4 + nI 1)] [] (mk D ct)) : RUN X C 89 Q 58 [.ref 0, .int x1, .int x2, .int x3, .int x4] [] (mk D ct) :=
  s_iload c89_58 rfl <|
  s_istore_n c89_60 (Nat.le_of_ble_eq_true rfl) True.intro <|
  s_iinc c89_61 rfl True.intro zcI_1 <|
  s_iinc c89_64 rfl True.intro zcI_1 <|
  s_goto c89_67 <|
  kk
theorem b89_61 {x1 : Int32} {x2 : Int32} {x3 : Int32} {x4 : Int32} (kk : RUN X C 89 Q 23 [.ref 0, .int x1, .int (x2 + nI 1), .int x3, .int (x4 + nI 1)] [] (mk D ct)) : RUN X C 89 Q 61 [.ref 0, .int x1, .int x2, .int x3, .int x4] [] (mk D ct) :=
  s_iinc c89_61 rfl True.intro zcI_1 <|
  s_iinc c89_64 rfl True.intro zcI_1 <|
  s_goto c89_67 <|
  kk
theorem b89_70 {x1 : Int32} {x2 : Int32} {x3 : Int32} {x4 : Int32} (k1 : x1 = (nI 0) → RUN X C 89 Q 74 [.ref 0, .int x1, .int x2, .int x3, .int x4] [] (mk D ct)) (k2 : ¬ x1 = (nI 0) → RUN X C 89 Q 78 [.ref 0, .int x1, .int x2, .int x3, .int x4] [] (mk D ct)) : RUN X C 89 Q 70 [.ref 0, .int x1, .int x2, .int x3, .int x4] [] (mk D ct) :=
  s_iload_n c89_70 rfl <|
  s_ifne c89_71 k1 k2
theorem b89_74 {x1 : Int32} {x2 : Int32} {x3 : Int32} {x4 : Int32} (hq : Q (some (.int x2)) (mk D ct)) : RUN X C 89 Q 74 [.ref 0, .int x1, .int x2, .int x3, .int x4] [] (mk D ct) :=
  s_iload_n c89_74 rfl <|
  s_goto c89_75 <|
  s_iret c89_79 (xrtI rfl) hq
theorem b89_78 {x1 : Int32} {x2 : Int32} {x3 : Int32} {x4 : Int32} (hq : Q (some (.int x3)) (mk D ct)) : RUN X C 89 Q 78 [.ref 0, .int x1, .int x2, .int x3, .int x4] [] (mk D ct) :=
  s_iload_n c89_78 rfl <|
  s_iret c89_79 (xrtI rfl) hq
-- ('PaintedTown', 'copy', '(I)I')
theorem b90_0 {x1 : Int32} {l2 : Value} {l3 : Value} {l4 : Value} {D1 : zD} {ct1 : zM} {v1 : Int32} (he : C 30 [.ref 11, .int x1] (mk D ct) (some (.int v1)) (mk D1 ct1)) (kk : RUN X C 90 Q 8 [.ref 0, .int x1, l2, l3, l4] [.int v1] (mk D1 ct1)) : RUN X C 90 Q 0 [.ref 0, .int x1, l2, l3, l4] [] (mk D ct) :=
  s_aload_n c90_0 rfl <|
  s_getf (ct := ct) c90_1 rfl (by decide) rfl <|
  s_iload_n c90_4 rfl <|
  s_callv (args := [.int x1]) (r := []) c90_5 rfl rfl (Nat.le_of_ble_eq_true rfl) rfl ⟨rfl, by decide⟩ he kk
theorem b90_8 {x1 : Int32} {l2 : Value} {l3 : Value} {l4 : Value} {xs0 : Int32} (k1 : xs0 = (nI 0) → RUN X C 90 Q 11 [.ref 0, .int x1, l2, l3, l4] [] (mk D ct)) (k2 : ¬ xs0 = (nI 0) → RUN X C 90 Q 13 [.ref 0, .int x1, l2, l3, l4] [] (mk D ct)) : RUN X C 90 Q 8 [.ref 0, .int x1, l2, l3, l4] [.int xs0] (mk D ct) :=
  s_ifne c90_8 k1 k2
theorem b90_11 {x1 : Int32} {l2 : Value} {l3 : Value} {l4 : Value} (hq : Q (some (.int (-1))) (mk D ct)) : RUN X C 90 Q 11 [.ref 0, .int x1, l2, l3, l4] [] (mk D ct) :=
  s_const c90_11 zcI_m1 <|
  s_iret c90_12 (xrtI rfl) hq
theorem b90_13 {x1 : Int32} {l2 : Value} {l3 : Value} {l4 : Value} {D1 : zD} {ct1 : zM} (he : C 42 [.ref 0] (mk D ct) none (mk D1 ct1)) (kk : RUN X C 90 Q 17 [.ref 0, .int x1, l2, l3, l4] [] (mk D1 ct1)) : RUN X C 90 Q 13 [.ref 0, .int x1, l2, l3, l4] [] (mk D ct) :=
  s_aload_n c90_13 rfl <|
  s_callv (args := []) (r := []) c90_14 rfl rfl (Nat.le_of_ble_eq_true rfl) rfl ⟨rfl, by decide⟩ he kk
theorem b90_17 {x1 : Int32} {l2 : Value} {l3 : Value} {l4 : Value} {j25 : Nat} (hx25 : zix x1 j25 36) (kk : RUN X C 90 Q 32 [.ref 0, .int x1, .int (ct 12 j25), .int (nI 0), .int (nI 0)] [] (mk D ct)) : RUN X C 90 Q 17 [.ref 0, .int x1, l2, l3, l4] [] (mk D ct) :=
  s_aload_n c90_17 rfl <|
  s_getf (ct := ct) c90_18 rfl (by decide) rfl <|
  s_getf (ct := ct) c90_21 rfl (by decide) rfl <|
  s_iload_n c90_24 rfl <|
  s_iald (ct := ct) c90_25 rfl hx25 <|
  s_istore_n c90_26 (Nat.le_of_ble_eq_true rfl) True.intro <|
  s_const c90_27 zcI_0 <|
  s_istore_n c90_28 (Nat.le_of_ble_eq_true rfl) True.intro <|
  s_const c90_29 zcI_0 <|
  s_istore c90_30 (Nat.le_of_ble_eq_true rfl) True.intro <|
  kk
theorem b90_32 {x1 : Int32} {x2 : Int32} {x3 : Int32} {x4 : Int32} (k1 : (nI 8) ≤ x4 → RUN X C 90 Q 70 [.ref 0, .int x1, .int x2, .int x3, .int x4] [] (mk D ct)) (k2 : ¬ (nI 8) ≤ x4 → RUN X C 90 Q 39 [.ref 0, .int x1, .int x2, .int x3, .int x4] [] (mk D ct)) : RUN X C 90 Q 32 [.ref 0, .int x1, .int x2, .int x3, .int x4] [] (mk D ct) :=
  s_iload c90_32 rfl <|
  s_bipush c90_34 zcB_8 <|
  s_icge c90_36 k1 k2
theorem b90_39 {x1 : Int32} {x2 : Int32} {x3 : Int32} {x4 : Int32} {D1 : zD} {ct1 : zM} {v1 : Int32} {j49 : Nat} (hx49 : zix x1 j49 36) (he : C 88 [.ref 0] (mk D (u2 ct 12 j49 x4)) (some (.int v1)) (mk D1 ct1)) (kk : RUN X C 90 Q 54 [.ref 0, .int x1, .int x2, .int x3, .int x4] [.int v1] (mk D1 ct1)) : RUN X C 90 Q 39 [.ref 0, .int x1, .int x2, .int x3, .int x4] [] (mk D ct) :=
  s_aload_n c90_39 rfl <|
  s_getf (ct := ct) c90_40 rfl (by decide) rfl <|
  s_getf (ct := ct) c90_43 rfl (by decide) rfl <|
  s_iload_n c90_46 rfl <|
  s_iload c90_47 rfl <|
  s_iast (ct := ct) c90_49 rfl hx49 <|
  s_aload_n c90_50 rfl <|
  s_callv (args := []) (r := []) c90_51 rfl rfl (Nat.le_of_ble_eq_true rfl) rfl ⟨rfl, by decide⟩ he kk
theorem b90_54 {x1 : Int32} {x2 : Int32} {x3 : Int32} {x4 : Int32} {xs0 : Int32} (k1 : xs0 = (nI 0) → RUN X C 90 Q 64 [.ref 0, .int x1, .int x2, .int x3, .int x4] [] (mk D ct)) (k2 : ¬ xs0 = (nI 0) → RUN X C 90 Q 57 [.ref 0, .int x1, .int x2, .int x3, .int x4] [] (mk D ct)) : RUN X C 90 Q 54 [.ref 0, .int x1, .int x2, .int x3, .int x4] [.int xs0] (mk D ct) :=
  s_ifeq c90_54 k1 k2
theorem b90_57 {x1 : Int32} {x2 : Int32} {x3 : Int32} {x4 : Int32} (kk : RUN X C 90 Q 32 [.ref 0, .int x1, .int x2, .int (x3 ||| ((nI 1) <<< (x4 &&& 31))), .int (x4 + nI 1)] [] (mk D ct)) : RUN X C 90 Q 57 [.ref 0, .int x1, .int x2, .int x3, .int x4] [] (mk D ct) :=
  s_iload_n c90_57 rfl <|
  s_const c90_58 zcI_1 <|
  s_iload c90_59 rfl <|
  s_ishl c90_61 <|
  s_ior c90_62 <|
  s_istore_n c90_63 (Nat.le_of_ble_eq_true rfl) True.intro <|
  s_iinc c90_64 rfl True.intro zcI_1 <|
  s_goto c90_67 <|
  kk
theorem b90_64 {x1 : Int32} {x2 : Int32} {x3 : Int32} {x4 : Int32} (kk : RUN X C 90 Q 32 [.ref 0, .int x1, .int x2, .int x3, .int (x4 + nI 1)] [] (mk D ct)) : RUN X C 90 Q 64 [.ref 0, .int x1, .int x2, .int x3, .int x4] [] (mk D ct) :=
  s_iinc c90_64 rfl True.intro zcI_1 <|
  s_goto c90_67 <|
  kk
theorem b90_70 {x1 : Int32} {x2 : Int32} {x3 : Int32} {x4 : Int32} {j79 : Nat} (hx79 : zix x1 j79 36) (hq : Q (some (.int x3)) (mk D (u2 ct 12 j79 x2))) : RUN X C 90 Q 70 [.ref 0, .int x1, .int x2, .int x3, .int x4] [] (mk D ct) :=
  s_aload_n c90_70 rfl <|
  s_getf (ct := ct) c90_71 rfl (by decide) rfl <|
  s_getf (ct := ct) c90_74 rfl (by decide) rfl <|
  s_iload_n c90_77 rfl <|
  s_iload_n c90_78 rfl <|
  s_iast (ct := ct) c90_79 rfl hx79 <|
  s_iload_n c90_80 rfl <|
  s_iret c90_81 (xrtI rfl) hq
-- ('PaintedTown', 'by', '(I)I')
theorem b91_0 {x1 : Int32} (k1 : x1 < (nI 0) → RUN X C 91 Q 9 [.ref 0, .int x1] [] (mk D ct)) (k2 : ¬ x1 < (nI 0) → RUN X C 91 Q 4 [.ref 0, .int x1] [] (mk D ct)) : RUN X C 91 Q 0 [.ref 0, .int x1] [] (mk D ct) :=
  s_iload_n c91_0 rfl <|
  s_iflt c91_1 k1 k2
theorem b91_4 {x1 : Int32} (k1 : x1 < (nI 4) → RUN X C 91 Q 11 [.ref 0, .int x1] [] (mk D ct)) (k2 : ¬ x1 < (nI 4) → RUN X C 91 Q 9 [.ref 0, .int x1] [] (mk D ct)) : RUN X C 91 Q 4 [.ref 0, .int x1] [] (mk D ct) :=
  s_iload_n c91_4 rfl <|
  s_const c91_5 zcI_4 <|
  s_iclt c91_6 k1 k2
theorem b91_9 {x1 : Int32} (hq : Q (some (.int (-1))) (mk D ct)) : RUN X C 91 Q 9 [.ref 0, .int x1] [] (mk D ct) :=
  s_const c91_9 zcI_m1 <|
  s_iret c91_10 (xrtI rfl) hq
theorem b91_11 {x1 : Int32} {D1 : zD} {ct1 : zM} {v1 : Int32} (he : C 92 [.ref 0, .int x1] (mk D ct) (some (.int v1)) (mk D1 ct1)) (kk : RUN X C 91 Q 16 [.ref 0, .int x1] [.int v1] (mk D1 ct1)) : RUN X C 91 Q 11 [.ref 0, .int x1] [] (mk D ct) :=
  s_aload_n c91_11 rfl <|
  s_iload_n c91_12 rfl <|
  s_callv (args := [.int x1]) (r := []) c91_13 rfl rfl (Nat.le_of_ble_eq_true rfl) rfl ⟨rfl, by decide⟩ he kk
theorem b91_16 {x1 : Int32} {xs0 : Int32} (hq : Q (some (.int xs0)) (mk D ct)) : RUN X C 91 Q 16 [.ref 0, .int x1] [.int xs0] (mk D ct) :=
  s_iret c91_16 (xrtI rfl) hq
-- ('PaintedTown', 'sumBy', '(I)I')
theorem b92_0 {x1 : Int32} {D1 : zD} {ct1 : zM} (he : C 42 [.ref 0] (mk D ct) none (mk D1 ct1)) (kk : RUN X C 92 Q 4 [.ref 0, .int x1] [] (mk D1 ct1)) : RUN X C 92 Q 0 [.ref 0, .int x1] [] (mk D ct) :=
  s_aload_n c92_0 rfl <|
  s_callv (args := []) (r := []) c92_1 rfl rfl (Nat.le_of_ble_eq_true rfl) rfl ⟨rfl, by decide⟩ he kk
theorem b92_4 {x1 : Int32} {D1 : zD} {ct1 : zM} {v1 : Int32} (he : C 51 [.ref 26] (mk D (u2 ct 22 3 x1)) (some (.int v1)) (mk D1 ct1)) (kk : RUN X C 92 Q 19 [.ref 0, .int x1] [.int v1] (mk D1 ct1)) : RUN X C 92 Q 4 [.ref 0, .int x1] [] (mk D ct) :=
  s_aload_n c92_4 rfl <|
  s_getf (ct := ct) c92_5 rfl (by decide) rfl <|
  s_iload_n c92_8 rfl <|
  s_putf (ct := ct) c92_9 rfl (by decide) zint_3_3 xfit_3_3 <|
  s_aload_n c92_12 rfl <|
  s_getf (ct := (u2 ct 22 3 x1)) c92_13 rfl (by decide) rfl <|
  s_callv (args := []) (r := []) c92_16 rfl rfl (Nat.le_of_ble_eq_true rfl) rfl ⟨rfl, by decide⟩ he kk
theorem b92_19 {x1 : Int32} {xs0 : Int32} (hq : Q (some (.int xs0)) (mk D ct)) : RUN X C 92 Q 19 [.ref 0, .int x1] [.int xs0] (mk D ct) :=
  s_iret c92_19 (xrtI rfl) hq
-- ('PaintedTown', 'chance', '(I)I')
theorem b93_0 {x1 : Int32} {l2 : Value} {l3 : Value} (k1 : x1 < (nI 0) → RUN X C 93 Q 9 [.ref 0, .int x1, l2, l3] [] (mk D ct)) (k2 : ¬ x1 < (nI 0) → RUN X C 93 Q 4 [.ref 0, .int x1, l2, l3] [] (mk D ct)) : RUN X C 93 Q 0 [.ref 0, .int x1, l2, l3] [] (mk D ct) :=
  s_iload_n c93_0 rfl <|
  s_iflt c93_1 k1 k2
theorem b93_4 {x1 : Int32} {l2 : Value} {l3 : Value} (k1 : x1 ≤ (nI 1) → RUN X C 93 Q 11 [.ref 0, .int x1, l2, l3] [] (mk D ct)) (k2 : ¬ x1 ≤ (nI 1) → RUN X C 93 Q 9 [.ref 0, .int x1, l2, l3] [] (mk D ct)) : RUN X C 93 Q 4 [.ref 0, .int x1, l2, l3] [] (mk D ct) :=
  s_iload_n c93_4 rfl <|
  s_const c93_5 zcI_1 <|
  s_icle c93_6 k1 k2
theorem b93_9 {x1 : Int32} {l2 : Value} {l3 : Value} (hq : Q (some (.int (-1))) (mk D ct)) : RUN X C 93 Q 9 [.ref 0, .int x1, l2, l3] [] (mk D ct) :=
  s_const c93_9 zcI_m1 <|
  s_iret c93_10 (xrtI rfl) hq
theorem b93_11 {x1 : Int32} {l2 : Value} {l3 : Value} (kk : RUN X C 93 Q 15 [.ref 0, .int x1, .int (nI 0), .int (nI 0)] [] (mk D ct)) : RUN X C 93 Q 11 [.ref 0, .int x1, l2, l3] [] (mk D ct) :=
  s_const c93_11 zcI_0 <|
  s_istore_n c93_12 (Nat.le_of_ble_eq_true rfl) True.intro <|
  s_const c93_13 zcI_0 <|
  s_istore_n c93_14 (Nat.le_of_ble_eq_true rfl) True.intro <|
  kk
theorem b93_15 {x1 : Int32} {x2 : Int32} {x3 : Int32} (k1 : (nI 4) ≤ x3 → RUN X C 93 Q 53 [.ref 0, .int x1, .int x2, .int x3] [] (mk D ct)) (k2 : ¬ (nI 4) ≤ x3 → RUN X C 93 Q 20 [.ref 0, .int x1, .int x2, .int x3] [] (mk D ct)) : RUN X C 93 Q 15 [.ref 0, .int x1, .int x2, .int x3] [] (mk D ct) :=
  s_iload_n c93_15 rfl <|
  s_const c93_16 zcI_4 <|
  s_icge c93_17 k1 k2
theorem b93_20 {x1 : Int32} {x2 : Int32} {x3 : Int32} {D1 : zD} {ct1 : zM} {v1 : Int32} (he : C 92 [.ref 0, .int x3] (mk D ct) (some (.int v1)) (mk D1 ct1)) (kk : RUN X C 93 Q 25 [.ref 0, .int x1, .int x2, .int x3] [.int v1] (mk D1 ct1)) : RUN X C 93 Q 20 [.ref 0, .int x1, .int x2, .int x3] [] (mk D ct) :=
  s_aload_n c93_20 rfl <|
  s_iload_n c93_21 rfl <|
  s_callv (args := [.int x3]) (r := []) c93_22 rfl rfl (Nat.le_of_ble_eq_true rfl) rfl ⟨rfl, by decide⟩ he kk
theorem b93_25 {x1 : Int32} {x2 : Int32} {x3 : Int32} {xs0 : Int32} (k1 : (ct 11 2) < xs0 → RUN X C 93 Q 47 [.ref 0, .int x1, .int x2, .int x3] [] (mk D ct)) (k2 : ¬ (ct 11 2) < xs0 → RUN X C 93 Q 35 [.ref 0, .int x1, .int x2, .int x3] [] (mk D ct)) : RUN X C 93 Q 25 [.ref 0, .int x1, .int x2, .int x3] [.int xs0] (mk D ct) :=
  s_aload_n c93_25 rfl <|
  s_getf (ct := ct) c93_26 rfl (by decide) rfl <|
  s_getf (ct := ct) c93_29 rfl (by decide) rfl <|
  s_icgt c93_32 k1 k2
theorem b93_35 {x1 : Int32} {x2 : Int32} {x3 : Int32} {j44 : Nat} (hx44 : zix x3 j44 4) (kk : RUN X C 93 Q 15 [.ref 0, .int x1, .int (x2 + (ct 13 j44)), .int (x3 + nI 1)] [] (mk D ct)) : RUN X C 93 Q 35 [.ref 0, .int x1, .int x2, .int x3] [] (mk D ct) :=
  s_iload_n c93_35 rfl <|
  s_aload_n c93_36 rfl <|
  s_getf (ct := ct) c93_37 rfl (by decide) rfl <|
  s_getf (ct := ct) c93_40 rfl (by decide) rfl <|
  s_iload_n c93_43 rfl <|
  s_iald (ct := ct) c93_44 rfl hx44 <|
  s_iadd c93_45 <|
  s_istore_n c93_46 (Nat.le_of_ble_eq_true rfl) True.intro <|
  s_iinc c93_47 rfl True.intro zcI_1 <|
  s_goto c93_50 <|
  kk
theorem b93_47 {x1 : Int32} {x2 : Int32} {x3 : Int32} (kk : RUN X C 93 Q 15 [.ref 0, .int x1, .int x2, .int (x3 + nI 1)] [] (mk D ct)) : RUN X C 93 Q 47 [.ref 0, .int x1, .int x2, .int x3] [] (mk D ct) :=
  s_iinc c93_47 rfl True.intro zcI_1 <|
  s_goto c93_50 <|
  kk
theorem b93_53 {x1 : Int32} {x2 : Int32} {x3 : Int32} {D1 : zD} {ct1 : zM} {v1 : Int32} (he : C 94 [.int x2, .int (nI 10)] (mk D ct) (some (.int v1)) (mk D1 ct1)) (kk : RUN X C 93 Q 59 [.ref 0, .int x1, .int x2, .int x3] [.int v1] (mk D1 ct1)) : RUN X C 93 Q 53 [.ref 0, .int x1, .int x2, .int x3] [] (mk D ct) :=
  s_iload_n c93_53 rfl <|
  s_bipush c93_54 zcB_10 <|
  s_calls (args := [.int x2, .int (nI 10)]) (r := []) c93_56 rfl rfl (Nat.le_of_ble_eq_true rfl) he kk
theorem b93_59 {x1 : Int32} {x2 : Int32} {x3 : Int32} {xs0 : Int32} (k1 : (nI 1) ≤ xs0 → RUN X C 93 Q 68 [.ref 0, .int x1, .int x2, .int xs0] [] (mk D ct)) (k2 : ¬ (nI 1) ≤ xs0 → RUN X C 93 Q 65 [.ref 0, .int x1, .int x2, .int xs0] [] (mk D ct)) : RUN X C 93 Q 59 [.ref 0, .int x1, .int x2, .int x3] [.int xs0] (mk D ct) :=
  s_istore_n c93_59 (Nat.le_of_ble_eq_true rfl) True.intro <|
  s_iload_n c93_60 rfl <|
  s_const c93_61 zcI_1 <|
  s_icge c93_62 k1 k2
theorem b93_65 {x1 : Int32} {x2 : Int32} {x3 : Int32} (hq : Q (some (.int (-4))) (mk D ct)) : RUN X C 93 Q 65 [.ref 0, .int x1, .int x2, .int x3] [] (mk D ct) :=
  s_bipush c93_65 zcB_m4 <|
  s_iret c93_67 (xrtI rfl) hq
theorem b93_68 {x1 : Int32} {x2 : Int32} {x3 : Int32} (k1 : x1 = (nI 0) → RUN X C 93 Q 72 [.ref 0, .int x1, .int x2, .int x3] [] (mk D ct)) (k2 : ¬ x1 = (nI 0) → RUN X C 93 Q 76 [.ref 0, .int x1, .int x2, .int x3] [] (mk D ct)) : RUN X C 93 Q 68 [.ref 0, .int x1, .int x2, .int x3] [] (mk D ct) :=
  s_iload_n c93_68 rfl <|
  s_ifne c93_69 k1 k2
theorem b93_72 {x1 : Int32} {x2 : Int32} {x3 : Int32} (hz79 : ¬ x3 = 0) (hq : Q (some (.int (x2 / x3))) (mk D ct)) : RUN X C 93 Q 72 [.ref 0, .int x1, .int x2, .int x3] [] (mk D ct) :=
  s_iload_n c93_72 rfl <|
  s_goto c93_73 <|
  s_iload_n c93_78 rfl <|
  s_idiv c93_79 hz79 <|
  s_iret c93_80 (xrtI rfl) hq
theorem b93_76 {x1 : Int32} {x2 : Int32} {x3 : Int32} (hz79 : ¬ x3 = 0) (hq : Q (some (.int ((nI 10) / x3))) (mk D ct)) : RUN X C 93 Q 76 [.ref 0, .int x1, .int x2, .int x3] [] (mk D ct) :=
  s_bipush c93_76 zcB_10 <|
  s_iload_n c93_78 rfl <|
  s_idiv c93_79 hz79 <|
  s_iret c93_80 (xrtI rfl) hq
-- ('PaintedTown', 'commonDivisor', '(II)I')
theorem b94_0 {x0 : Int32} {x1 : Int32} {l2 : Value} (kk : RUN X C 94 Q 2 [.int x0, .int x1, .int x1] [] (mk D ct)) : RUN X C 94 Q 0 [.int x0, .int x1, l2] [] (mk D ct) :=
  s_iload_n c94_0 rfl <|
  s_istore_n c94_1 (Nat.le_of_ble_eq_true rfl) True.intro <|
  kk
theorem b94_2 {x0 : Int32} {x1 : Int32} {x2 : Int32} (k1 : x2 ≤ (nI 1) → RUN X C 94 Q 27 [.int x0, .int x1, .int x2] [] (mk D ct)) (k2 : ¬ x2 ≤ (nI 1) → RUN X C 94 Q 7 [.int x0, .int x1, .int x2] [] (mk D ct)) : RUN X C 94 Q 2 [.int x0, .int x1, .int x2] [] (mk D ct) :=
  s_iload_n c94_2 rfl <|
  s_const c94_3 zcI_1 <|
  s_icle c94_4 k1 k2
theorem b94_7 {x0 : Int32} {x1 : Int32} {x2 : Int32} (hz9 : ¬ x2 = 0) (k1 : (x0 - x0 / x2 * x2) = (nI 0) → RUN X C 94 Q 13 [.int x0, .int x1, .int x2] [] (mk D ct)) (k2 : ¬ (x0 - x0 / x2 * x2) = (nI 0) → RUN X C 94 Q 21 [.int x0, .int x1, .int x2] [] (mk D ct)) : RUN X C 94 Q 7 [.int x0, .int x1, .int x2] [] (mk D ct) :=
  s_iload_n c94_7 rfl <|
  s_iload_n c94_8 rfl <|
  s_irem c94_9 hz9 <|
  s_ifne c94_10 k1 k2
theorem b94_13 {x0 : Int32} {x1 : Int32} {x2 : Int32} (hz15 : ¬ x2 = 0) (k1 : (x1 - x1 / x2 * x2) = (nI 0) → RUN X C 94 Q 19 [.int x0, .int x1, .int x2] [] (mk D ct)) (k2 : ¬ (x1 - x1 / x2 * x2) = (nI 0) → RUN X C 94 Q 21 [.int x0, .int x1, .int x2] [] (mk D ct)) : RUN X C 94 Q 13 [.int x0, .int x1, .int x2] [] (mk D ct) :=
  s_iload_n c94_13 rfl <|
  s_iload_n c94_14 rfl <|
  s_irem c94_15 hz15 <|
  s_ifne c94_16 k1 k2
theorem b94_19 {x0 : Int32} {x1 : Int32} {x2 : Int32} (hq : Q (some (.int x2)) (mk D ct)) : RUN X C 94 Q 19 [.int x0, .int x1, .int x2] [] (mk D ct) :=
  s_iload_n c94_19 rfl <|
  s_iret c94_20 (xrtI rfl) hq
theorem b94_21 {x0 : Int32} {x1 : Int32} {x2 : Int32} (kk : RUN X C 94 Q 2 [.int x0, .int x1, .int (x2 + (-1))] [] (mk D ct)) : RUN X C 94 Q 21 [.int x0, .int x1, .int x2] [] (mk D ct) :=
  s_iinc c94_21 rfl True.intro zcI_m1 <|
  s_goto c94_24 <|
  kk
theorem b94_27 {x0 : Int32} {x1 : Int32} {x2 : Int32} (hq : Q (some (.int (nI 1))) (mk D ct)) : RUN X C 94 Q 27 [.int x0, .int x1, .int x2] [] (mk D ct) :=
  s_const c94_27 zcI_1 <|
  s_iret c94_28 (xrtI rfl) hq
-- ('PaintedTown', 'year', '(III)I')
theorem b95_0 {x1 : Int32} {x2 : Int32} {x3 : Int32} {l4 : Value} {l5 : Value} {l6 : Value} {l7 : Value} (k1 : x1 < (nI 0) → RUN X C 95 Q 31 [.ref 0, .int x1, .int x2, .int x3, l4, l5, l6, l7] [] (mk D ct)) (k2 : ¬ x1 < (nI 0) → RUN X C 95 Q 4 [.ref 0, .int x1, .int x2, .int x3, l4, l5, l6, l7] [] (mk D ct)) : RUN X C 95 Q 0 [.ref 0, .int x1, .int x2, .int x3, l4, l5, l6, l7] [] (mk D ct) :=
  s_iload_n c95_0 rfl <|
  s_iflt c95_1 k1 k2
theorem b95_4 {x1 : Int32} {x2 : Int32} {x3 : Int32} {l4 : Value} {l5 : Value} {l6 : Value} {l7 : Value} (k1 : (nI 9999) < x1 → RUN X C 95 Q 31 [.ref 0, .int x1, .int x2, .int x3, l4, l5, l6, l7] [] (mk D ct)) (k2 : ¬ (nI 9999) < x1 → RUN X C 95 Q 11 [.ref 0, .int x1, .int x2, .int x3, l4, l5, l6, l7] [] (mk D ct)) : RUN X C 95 Q 4 [.ref 0, .int x1, .int x2, .int x3, l4, l5, l6, l7] [] (mk D ct) :=
  s_iload_n c95_4 rfl <|
  s_sipush c95_5 zcS_9999 <|
  s_icgt c95_8 k1 k2
theorem b95_11 {x1 : Int32} {x2 : Int32} {x3 : Int32} {l4 : Value} {l5 : Value} {l6 : Value} {l7 : Value} (k1 : x2 < (nI 1) → RUN X C 95 Q 31 [.ref 0, .int x1, .int x2, .int x3, l4, l5, l6, l7] [] (mk D ct)) (k2 : ¬ x2 < (nI 1) → RUN X C 95 Q 16 [.ref 0, .int x1, .int x2, .int x3, l4, l5, l6, l7] [] (mk D ct)) : RUN X C 95 Q 11 [.ref 0, .int x1, .int x2, .int x3, l4, l5, l6, l7] [] (mk D ct) :=
  s_iload_n c95_11 rfl <|
  s_const c95_12 zcI_1 <|
  s_iclt c95_13 k1 k2
theorem b95_16 {x1 : Int32} {x2 : Int32} {x3 : Int32} {l4 : Value} {l5 : Value} {l6 : Value} {l7 : Value} (k1 : (nI 40) < x2 → RUN X C 95 Q 31 [.ref 0, .int x1, .int x2, .int x3, l4, l5, l6, l7] [] (mk D ct)) (k2 : ¬ (nI 40) < x2 → RUN X C 95 Q 22 [.ref 0, .int x1, .int x2, .int x3, l4, l5, l6, l7] [] (mk D ct)) : RUN X C 95 Q 16 [.ref 0, .int x1, .int x2, .int x3, l4, l5, l6, l7] [] (mk D ct) :=
  s_iload_n c95_16 rfl <|
  s_bipush c95_17 zcB_40 <|
  s_icgt c95_19 k1 k2
theorem b95_22 {x1 : Int32} {x2 : Int32} {x3 : Int32} {l4 : Value} {l5 : Value} {l6 : Value} {l7 : Value} (k1 : x3 < (nI 0) → RUN X C 95 Q 31 [.ref 0, .int x1, .int x2, .int x3, l4, l5, l6, l7] [] (mk D ct)) (k2 : ¬ x3 < (nI 0) → RUN X C 95 Q 26 [.ref 0, .int x1, .int x2, .int x3, l4, l5, l6, l7] [] (mk D ct)) : RUN X C 95 Q 22 [.ref 0, .int x1, .int x2, .int x3, l4, l5, l6, l7] [] (mk D ct) :=
  s_iload_n c95_22 rfl <|
  s_iflt c95_23 k1 k2
theorem b95_26 {x1 : Int32} {x2 : Int32} {x3 : Int32} {l4 : Value} {l5 : Value} {l6 : Value} {l7 : Value} (k1 : x3 ≤ (nI 1) → RUN X C 95 Q 33 [.ref 0, .int x1, .int x2, .int x3, l4, l5, l6, l7] [] (mk D ct)) (k2 : ¬ x3 ≤ (nI 1) → RUN X C 95 Q 31 [.ref 0, .int x1, .int x2, .int x3, l4, l5, l6, l7] [] (mk D ct)) : RUN X C 95 Q 26 [.ref 0, .int x1, .int x2, .int x3, l4, l5, l6, l7] [] (mk D ct) :=
  s_iload_n c95_26 rfl <|
  s_const c95_27 zcI_1 <|
  s_icle c95_28 k1 k2
theorem b95_31 {x1 : Int32} {x2 : Int32} {x3 : Int32} {l4 : Value} {l5 : Value} {l6 : Value} {l7 : Value} (hq : Q (some (.int (-1))) (mk D ct)) : RUN X C 95 Q 31 [.ref 0, .int x1, .int x2, .int x3, l4, l5, l6, l7] [] (mk D ct) :=
  s_const c95_31 zcI_m1 <|
  s_iret c95_32 (xrtI rfl) hq
theorem b95_33 {x1 : Int32} {x2 : Int32} {x3 : Int32} {l4 : Value} {l5 : Value} {l6 : Value} {l7 : Value} {D1 : zD} {ct1 : zM} (he : C 42 [.ref 0] (mk D ct) none (mk D1 ct1)) (kk : RUN X C 95 Q 37 [.ref 0, .int x1, .int x2, .int x3, l4, l5, l6, l7] [] (mk D1 ct1)) : RUN X C 95 Q 33 [.ref 0, .int x1, .int x2, .int x3, l4, l5, l6, l7] [] (mk D ct) :=
  s_aload_n c95_33 rfl <|
  s_callv (args := []) (r := []) c95_34 rfl rfl (Nat.le_of_ble_eq_true rfl) rfl ⟨rfl, by decide⟩ he kk
theorem b95_37 {x1 : Int32} {x2 : Int32} {x3 : Int32} {l4 : Value} {l5 : Value} {l6 : Value} {l7 : Value} (kk : RUN X C 95 Q 46 [.ref 0, .int x1, .int x2, .int x3, .int (nI 0), .int (nI 0), .int (nI 0), l7] [] (mk D ct)) : RUN X C 95 Q 37 [.ref 0, .int x1, .int x2, .int x3, l4, l5, l6, l7] [] (mk D ct) :=
  s_const c95_37 zcI_0 <|
  s_istore c95_38 (Nat.le_of_ble_eq_true rfl) True.intro <|
  s_const c95_40 zcI_0 <|
  s_istore c95_41 (Nat.le_of_ble_eq_true rfl) True.intro <|
  s_const c95_43 zcI_0 <|
  s_istore c95_44 (Nat.le_of_ble_eq_true rfl) True.intro <|
  kk
theorem b95_46 {x1 : Int32} {x2 : Int32} {x3 : Int32} {x4 : Int32} {x5 : Int32} {x6 : Int32} {l7 : Value} (k1 : x2 ≤ x6 → RUN X C 95 Q 99 [.ref 0, .int x1, .int x2, .int x3, .int x4, .int x5, .int x6, l7] [] (mk D ct)) (k2 : ¬ x2 ≤ x6 → RUN X C 95 Q 52 [.ref 0, .int x1, .int x2, .int x3, .int x4, .int x5, .int x6, l7] [] (mk D ct)) : RUN X C 95 Q 46 [.ref 0, .int x1, .int x2, .int x3, .int x4, .int x5, .int x6, l7] [] (mk D ct) :=
  s_iload c95_46 rfl <|
  s_iload_n c95_48 rfl <|
  s_icge c95_49 k1 k2
theorem b95_52 {x1 : Int32} {x2 : Int32} {x3 : Int32} {x4 : Int32} {x5 : Int32} {x6 : Int32} {l7 : Value} {D1 : zD} {ct1 : zM} {v1 : Int32} (he : C 96 [.int x1, .int x6] (mk D ct) (some (.int v1)) (mk D1 ct1)) (kk : RUN X C 95 Q 59 [.ref 0, .int x1, .int x2, .int x3, .int x4, .int x5, .int x6, l7] [.int v1, .ref 0] (mk D1 ct1)) : RUN X C 95 Q 52 [.ref 0, .int x1, .int x2, .int x3, .int x4, .int x5, .int x6, l7] [] (mk D ct) :=
  s_aload_n c95_52 rfl <|
  s_iload_n c95_53 rfl <|
  s_iload c95_54 rfl <|
  s_calls (args := [.int x1, .int x6]) (r := [.ref 0]) c95_56 rfl rfl (Nat.le_of_ble_eq_true rfl) he kk
theorem b95_59 {x1 : Int32} {x2 : Int32} {x3 : Int32} {x4 : Int32} {x5 : Int32} {x6 : Int32} {l7 : Value} {xs1 : Int32} {D1 : zD} {ct1 : zM} (he : C 97 [.ref 0, .int xs1] (mk D ct) none (mk D1 ct1)) (kk : RUN X C 95 Q 62 [.ref 0, .int x1, .int x2, .int x3, .int x4, .int x5, .int x6, l7] [] (mk D1 ct1)) : RUN X C 95 Q 59 [.ref 0, .int x1, .int x2, .int x3, .int x4, .int x5, .int x6, l7] [.int xs1, .ref 0] (mk D ct) :=
  s_callv (args := [.int xs1]) (r := []) c95_59 rfl rfl (Nat.le_of_ble_eq_true rfl) rfl ⟨rfl, by decide⟩ he kk
theorem b95_62 {x1 : Int32} {x2 : Int32} {x3 : Int32} {x4 : Int32} {x5 : Int32} {x6 : Int32} {l7 : Value} {D1 : zD} {ct1 : zM} {v1 : Int32} (he : C 51 [.ref 26] (mk D ct) (some (.int v1)) (mk D1 ct1)) (kk : RUN X C 95 Q 69 [.ref 0, .int x1, .int x2, .int x3, .int x4, .int x5, .int x6, l7] [.int v1] (mk D1 ct1)) : RUN X C 95 Q 62 [.ref 0, .int x1, .int x2, .int x3, .int x4, .int x5, .int x6, l7] [] (mk D ct) :=
  s_aload_n c95_62 rfl <|
  s_getf (ct := ct) c95_63 rfl (by decide) rfl <|
  s_callv (args := []) (r := []) c95_66 rfl rfl (Nat.le_of_ble_eq_true rfl) rfl ⟨rfl, by decide⟩ he kk
theorem b95_69 {x1 : Int32} {x2 : Int32} {x3 : Int32} {x4 : Int32} {x5 : Int32} {x6 : Int32} {l7 : Value} {xs0 : Int32} (k1 : (ct 11 2) < xs0 → RUN X C 95 Q 86 [.ref 0, .int x1, .int x2, .int x3, .int x4, .int x5, .int x6, .int xs0] [] (mk D ct)) (k2 : ¬ (ct 11 2) < xs0 → RUN X C 95 Q 83 [.ref 0, .int x1, .int x2, .int x3, .int x4, .int x5, .int x6, .int xs0] [] (mk D ct)) : RUN X C 95 Q 69 [.ref 0, .int x1, .int x2, .int x3, .int x4, .int x5, .int x6, l7] [.int xs0] (mk D ct) :=
  s_istore c95_69 (Nat.le_of_ble_eq_true rfl) True.intro <|
  s_iload c95_71 rfl <|
  s_aload_n c95_73 rfl <|
  s_getf (ct := ct) c95_74 rfl (by decide) rfl <|
  s_getf (ct := ct) c95_77 rfl (by decide) rfl <|
  s_icgt c95_80 k1 k2
theorem b95_83 {x1 : Int32} {x2 : Int32} {x3 : Int32} {x4 : Int32} {x5 : Int32} {x6 : Int32} {x7 : Int32} (kk : RUN X C 95 Q 46 [.ref 0, .int x1, .int x2, .int x3, .int (x4 + nI 1), .int (x5 + x7), .int (x6 + nI 1), .int x7] [] (mk D ct)) : RUN X C 95 Q 83 [.ref 0, .int x1, .int x2, .int x3, .int x4, .int x5, .int x6, .int x7] [] (mk D ct) :=
  s_iinc c95_83 rfl True.intro zcI_1 <|
  s_iload c95_86 rfl <|
  s_iload c95_88 rfl <|
  s_iadd c95_90 <|
  s_istore c95_91 (Nat.le_of_ble_eq_true rfl) True.intro <|
  s_iinc c95_93 rfl True.intro zcI_1 <|
  s_goto c95_96 <|
  kk
theorem b95_86 {x1 : Int32} {x2 : Int32} {x3 : Int32} {x4 : Int32} {x5 : Int32} {x6 : Int32} {x7 : Int32} (kk : RUN X C 95 Q 46 [.ref 0, .int x1, .int x2, .int x3, .int x4, .int (x5 + x7), .int (x6 + nI 1), .int x7] [] (mk D ct)) : RUN X C 95 Q 86 [.ref 0, .int x1, .int x2, .int x3, .int x4, .int x5, .int x6, .int x7] [] (mk D ct) :=
  s_iload c95_86 rfl <|
  s_iload c95_88 rfl <|
  s_iadd c95_90 <|
  s_istore c95_91 (Nat.le_of_ble_eq_true rfl) True.intro <|
  s_iinc c95_93 rfl True.intro zcI_1 <|
  s_goto c95_96 <|
  kk
theorem b95_99 {x1 : Int32} {x2 : Int32} {x3 : Int32} {x4 : Int32} {x5 : Int32} {x6 : Int32} {l7 : Value} (k1 : x3 = (nI 0) → RUN X C 95 Q 103 [.ref 0, .int x1, .int x2, .int x3, .int x4, .int x5, .int x6, l7] [] (mk D ct)) (k2 : ¬ x3 = (nI 0) → RUN X C 95 Q 108 [.ref 0, .int x1, .int x2, .int x3, .int x4, .int x5, .int x6, l7] [] (mk D ct)) : RUN X C 95 Q 99 [.ref 0, .int x1, .int x2, .int x3, .int x4, .int x5, .int x6, l7] [] (mk D ct) :=
  s_iload_n c95_99 rfl <|
  s_ifne c95_100 k1 k2
theorem b95_103 {x1 : Int32} {x2 : Int32} {x3 : Int32} {x4 : Int32} {x5 : Int32} {x6 : Int32} {l7 : Value} (hq : Q (some (.int x4)) (mk D ct)) : RUN X C 95 Q 103 [.ref 0, .int x1, .int x2, .int x3, .int x4, .int x5, .int x6, l7] [] (mk D ct) :=
  s_iload c95_103 rfl <|
  s_goto c95_105 <|
  s_iret c95_110 (xrtI rfl) hq
theorem b95_108 {x1 : Int32} {x2 : Int32} {x3 : Int32} {x4 : Int32} {x5 : Int32} {x6 : Int32} {l7 : Value} (hq : Q (some (.int x5)) (mk D ct)) : RUN X C 95 Q 108 [.ref 0, .int x1, .int x2, .int x3, .int x4, .int x5, .int x6, l7] [] (mk D ct) :=
  s_iload c95_108 rfl <|
  s_iret c95_110 (xrtI rfl) hq
-- ('PaintedTown', 'draw', '(II)I')
theorem b96_0 {x0 : Int32} {x1 : Int32} {l2 : Value} {l3 : Value} (hq : Q (some (.int ((((((((lN 7919) * (x0.toInt64)) + ((lN 6151) * (x1.toInt64))) + (lN 1)) * ((((lN 7919) * (x0.toInt64)) + ((lN 6151) * (x1.toInt64))) + (lN 1))) - (((((lN 7919) * (x0.toInt64)) + ((lN 6151) * (x1.toInt64))) + (lN 1)) * ((((lN 7919) * (x0.toInt64)) + ((lN 6151) * (x1.toInt64))) + (lN 1))) / (lN 65521) * (lN 65521)) / (lN 2)).toInt32))) (mk D ct)) : RUN X C 96 Q 0 [.int x0, .int x1, l2, l3] [] (mk D ct) :=
  s_ldc2 c96_0 <|
  s_iload_n c96_3 rfl <|
  s_i2l c96_4 <|
  s_lmul c96_5 <|
  s_ldc2 c96_6 <|
  s_iload_n c96_9 rfl <|
  s_i2l c96_10 <|
  s_lmul c96_11 <|
  s_ladd c96_12 <|
  s_lconst c96_13 <|
  s_ladd c96_14 <|
  s_lstore_n c96_15 (Nat.le_of_ble_eq_true rfl) True.intro <|
  s_lload_n c96_16 rfl <|
  s_lload_n c96_17 rfl <|
  s_lmul c96_18 <|
  s_ldc2 c96_19 <|
  s_lrem c96_22 (by decide) <|
  s_ldc2 c96_23 <|
  s_ldiv c96_26 (by decide) <|
  s_l2i c96_27 <|
  s_iret c96_28 (xrtI rfl) hq
-- ('PaintedTown', 'liveThrough', '(I)V')
theorem b97_0 {x1 : Int32} {l2 : Value} {l3 : Value} {l4 : Value} {D1 : zD} {ct1 : zM} {v1 : Int32} (he : C 36 [.ref 11] (mk D ct) (some (.int v1)) (mk D1 ct1)) (kk : RUN X C 97 Q 7 [.ref 0, .int x1, l2, l3, l4] [.int v1] (mk D1 ct1)) : RUN X C 97 Q 0 [.ref 0, .int x1, l2, l3, l4] [] (mk D ct) :=
  s_aload_n c97_0 rfl <|
  s_getf (ct := ct) c97_1 rfl (by decide) rfl <|
  s_callv (args := []) (r := []) c97_4 rfl rfl (Nat.le_of_ble_eq_true rfl) rfl ⟨rfl, by decide⟩ he kk
theorem b97_7 {x1 : Int32} {l2 : Value} {l3 : Value} {l4 : Value} {xs0 : Int32} (k1 : (nI 1) ≤ xs0 → RUN X C 97 Q 14 [.ref 0, .int x1, .int xs0, l3, l4] [] (mk D ct)) (k2 : ¬ (nI 1) ≤ xs0 → RUN X C 97 Q 13 [.ref 0, .int x1, .int xs0, l3, l4] [] (mk D ct)) : RUN X C 97 Q 7 [.ref 0, .int x1, l2, l3, l4] [.int xs0] (mk D ct) :=
  s_istore_n c97_7 (Nat.le_of_ble_eq_true rfl) True.intro <|
  s_iload_n c97_8 rfl <|
  s_const c97_9 zcI_1 <|
  s_icge c97_10 k1 k2
theorem b97_13 {x1 : Int32} {x2 : Int32} {l3 : Value} {l4 : Value} (hq : Q none (mk D ct)) : RUN X C 97 Q 13 [.ref 0, .int x1, .int x2, l3, l4] [] (mk D ct) :=
  s_ret c97_13 rfl hq
theorem b97_14 {x1 : Int32} {x2 : Int32} {l3 : Value} {l4 : Value} {D1 : zD} {ct1 : zM} {v1 : Int32} (hz16 : ¬ x2 = 0) (he : C 30 [.ref 11, .int (x1 - x1 / x2 * x2)] (mk D ct) (some (.int v1)) (mk D1 ct1)) (kk : RUN X C 97 Q 35 [.ref 0, .int x1, .int x2, .int (x1 - x1 / x2 * x2), .int ((x1 / (nI 8)) - (x1 / (nI 8)) / (nI 8) * (nI 8))] [.int v1] (mk D1 ct1)) : RUN X C 97 Q 14 [.ref 0, .int x1, .int x2, l3, l4] [] (mk D ct) :=
  s_iload_n c97_14 rfl <|
  s_iload_n c97_15 rfl <|
  s_irem c97_16 hz16 <|
  s_istore_n c97_17 (Nat.le_of_ble_eq_true rfl) True.intro <|
  s_iload_n c97_18 rfl <|
  s_bipush c97_19 zcB_8 <|
  s_idiv c97_21 (by decide) <|
  s_bipush c97_22 zcB_8 <|
  s_irem c97_24 (by decide) <|
  s_istore c97_25 (Nat.le_of_ble_eq_true rfl) True.intro <|
  s_aload_n c97_27 rfl <|
  s_getf (ct := ct) c97_28 rfl (by decide) rfl <|
  s_iload_n c97_31 rfl <|
  s_callv (args := [.int (x1 - x1 / x2 * x2)]) (r := []) c97_32 rfl rfl (Nat.le_of_ble_eq_true rfl) rfl ⟨rfl, by decide⟩ he kk
theorem b97_35 {x1 : Int32} {x2 : Int32} {x3 : Int32} {x4 : Int32} {xs0 : Int32} (k1 : xs0 = (nI 0) → RUN X C 97 Q 63 [.ref 0, .int x1, .int x2, .int x3, .int x4] [] (mk D ct)) (k2 : ¬ xs0 = (nI 0) → RUN X C 97 Q 38 [.ref 0, .int x1, .int x2, .int x3, .int x4] [] (mk D ct)) : RUN X C 97 Q 35 [.ref 0, .int x1, .int x2, .int x3, .int x4] [.int xs0] (mk D ct) :=
  s_ifeq c97_35 k1 k2
theorem b97_38 {x1 : Int32} {x2 : Int32} {x3 : Int32} {x4 : Int32} {j46 : Nat} (hx46 : zix x3 j46 36) (k1 : (ct 23 j46) = x4 → RUN X C 97 Q 63 [.ref 0, .int x1, .int x2, .int x3, .int x4] [] (mk D ct)) (k2 : ¬ (ct 23 j46) = x4 → RUN X C 97 Q 52 [.ref 0, .int x1, .int x2, .int x3, .int x4] [] (mk D ct)) : RUN X C 97 Q 38 [.ref 0, .int x1, .int x2, .int x3, .int x4] [] (mk D ct) :=
  s_aload_n c97_38 rfl <|
  s_getf (ct := ct) c97_39 rfl (by decide) rfl <|
  s_getf (ct := ct) c97_42 rfl (by decide) rfl <|
  s_iload_n c97_45 rfl <|
  s_iald (ct := ct) c97_46 rfl hx46 <|
  s_iload c97_47 rfl <|
  s_iceq c97_49 k1 k2
theorem b97_52 {x1 : Int32} {x2 : Int32} {x3 : Int32} {x4 : Int32} {D1 : zD} {ct1 : zM} (he : C 31 [.ref 22, .int x3, .int x4, .int (nI 0)] (mk D ct) none (mk D1 ct1)) (kk : RUN X C 97 Q 63 [.ref 0, .int x1, .int x2, .int x3, .int x4] [] (mk D1 ct1)) : RUN X C 97 Q 52 [.ref 0, .int x1, .int x2, .int x3, .int x4] [] (mk D ct) :=
  s_aload_n c97_52 rfl <|
  s_getf (ct := ct) c97_53 rfl (by decide) rfl <|
  s_iload_n c97_56 rfl <|
  s_iload c97_57 rfl <|
  s_const c97_59 zcI_0 <|
  s_callv (args := [.int x3, .int x4, .int (nI 0)]) (r := []) c97_60 rfl rfl (Nat.le_of_ble_eq_true rfl) rfl ⟨rfl, by decide⟩ he kk
theorem b97_63 {x1 : Int32} {x2 : Int32} {x3 : Int32} {x4 : Int32} {D1 : zD} {ct1 : zM} (he : C 65 [.ref 22, .int (nI 1)] (mk D ct) none (mk D1 ct1)) (kk : RUN X C 97 Q 71 [.ref 0, .int x1, .int x2, .int x3, .int x4] [] (mk D1 ct1)) : RUN X C 97 Q 63 [.ref 0, .int x1, .int x2, .int x3, .int x4] [] (mk D ct) :=
  s_aload_n c97_63 rfl <|
  s_getf (ct := ct) c97_64 rfl (by decide) rfl <|
  s_const c97_67 zcI_1 <|
  s_callv (args := [.int (nI 1)]) (r := []) c97_68 rfl rfl (Nat.le_of_ble_eq_true rfl) rfl ⟨rfl, by decide⟩ he kk
theorem b97_71 {x1 : Int32} {x2 : Int32} {x3 : Int32} {x4 : Int32} (hq : Q none (mk D (u2 ct 22 3 ((x1 / (nI 64)) - (x1 / (nI 64)) / (nI 4) * (nI 4))))) : RUN X C 97 Q 71 [.ref 0, .int x1, .int x2, .int x3, .int x4] [] (mk D ct) :=
  s_aload_n c97_71 rfl <|
  s_getf (ct := ct) c97_72 rfl (by decide) rfl <|
  s_iload_n c97_75 rfl <|
  s_bipush c97_76 zcB_64 <|
  s_idiv c97_78 (by decide) <|
  s_const c97_79 zcI_4 <|
  s_irem c97_80 (by decide) <|
  s_putf (ct := ct) c97_81 rfl (by decide) zint_3_3 xfit_3_3 <|
  s_ret c97_84 rfl hq
-- ('PaintedTown', 'keep', '()I')
theorem b98_0 (k1 : (ct 20 2) < (nI 2) → RUN X C 98 Q 14 [.ref 0] [] (mk D ct)) (k2 : ¬ (ct 20 2) < (nI 2) → RUN X C 98 Q 11 [.ref 0] [] (mk D ct)) : RUN X C 98 Q 0 [.ref 0] [] (mk D ct) :=
  s_aload_n c98_0 rfl <|
  s_getf (ct := ct) c98_1 rfl (by decide) rfl <|
  s_getf (ct := ct) c98_4 rfl (by decide) rfl <|
  s_const c98_7 zcI_2 <|
  s_iclt c98_8 k1 k2
theorem b98_11 (hq : Q (some (.int (-3))) (mk D ct)) : RUN X C 98 Q 11 [.ref 0] [] (mk D ct) :=
  s_bipush c98_11 zcB_m3 <|
  s_iret c98_13 (xrtI rfl) hq
theorem b98_14 {D1 : zD} {ct1 : zM} (he : C 57 [.ref 20, .ref 14] (mk D ct) none (mk D1 ct1)) (kk : RUN X C 98 Q 25 [.ref 0] [] (mk D1 ct1)) : RUN X C 98 Q 14 [.ref 0] [] (mk D ct) :=
  s_aload_n c98_14 rfl <|
  s_getf (ct := ct) c98_15 rfl (by decide) rfl <|
  s_aload_n c98_18 rfl <|
  s_getf (ct := ct) c98_19 rfl (by decide) rfl <|
  s_callv (args := [.ref 14]) (r := []) c98_22 rfl rfl (Nat.le_of_ble_eq_true rfl) rfl ⟨rfl, by decide⟩ he kk
theorem b98_25 (hq : Q (some (.int (ct 20 2))) (mk D ct)) : RUN X C 98 Q 25 [.ref 0] [] (mk D ct) :=
  s_aload_n c98_25 rfl <|
  s_getf (ct := ct) c98_26 rfl (by decide) rfl <|
  s_getf (ct := ct) c98_29 rfl (by decide) rfl <|
  s_iret c98_32 (xrtI rfl) hq
-- ('PaintedTown', 'back', '()I')
theorem b99_0 {D1 : zD} {ct1 : zM} {v1 : Int32} (he : C 67 [.ref 20, .ref 14] (mk D ct) (some (.int v1)) (mk D1 ct1)) (kk : RUN X C 99 Q 11 [.ref 0] [.int v1] (mk D1 ct1)) : RUN X C 99 Q 0 [.ref 0] [] (mk D ct) :=
  s_aload_n c99_0 rfl <|
  s_getf (ct := ct) c99_1 rfl (by decide) rfl <|
  s_aload_n c99_4 rfl <|
  s_getf (ct := ct) c99_5 rfl (by decide) rfl <|
  s_callv (args := [.ref 14]) (r := []) c99_8 rfl rfl (Nat.le_of_ble_eq_true rfl) rfl ⟨rfl, by decide⟩ he kk
theorem b99_11 {xs0 : Int32} (k1 : xs0 = (nI 0) → RUN X C 99 Q 14 [.ref 0] [] (mk D ct)) (k2 : ¬ xs0 = (nI 0) → RUN X C 99 Q 17 [.ref 0] [] (mk D ct)) : RUN X C 99 Q 11 [.ref 0] [.int xs0] (mk D ct) :=
  s_ifne c99_11 k1 k2
theorem b99_14 (hq : Q (some (.int (-2))) (mk D ct)) : RUN X C 99 Q 14 [.ref 0] [] (mk D ct) :=
  s_bipush c99_14 zcB_m2 <|
  s_iret c99_16 (xrtI rfl) hq
theorem b99_17 {D1 : zD} {ct1 : zM} (he : C 35 [.ref 18] (mk D ct) none (mk D1 ct1)) (kk : RUN X C 99 Q 24 [.ref 0] [] (mk D1 ct1)) : RUN X C 99 Q 17 [.ref 0] [] (mk D ct) :=
  s_aload_n c99_17 rfl <|
  s_getf (ct := ct) c99_18 rfl (by decide) rfl <|
  s_callv (args := []) (r := []) c99_21 rfl rfl (Nat.le_of_ble_eq_true rfl) rfl ⟨rfl, by decide⟩ he kk
theorem b99_24 (hq : Q (some (.int (ct 20 2))) (mk D ct)) : RUN X C 99 Q 24 [.ref 0] [] (mk D ct) :=
  s_aload_n c99_24 rfl <|
  s_getf (ct := ct) c99_25 rfl (by decide) rfl <|
  s_getf (ct := ct) c99_28 rfl (by decide) rfl <|
  s_iret c99_31 (xrtI rfl) hq
-- ('PaintedTown', 'count', '(I)I')
theorem b100_0 {x1 : Int32} (kk : xsw [145, 60, 68, 76, 84, 92, 100, 108, 116, 121, 129, 137] (x1.toInt - 0) fun t => RUN X C 100 Q t [.ref 0, .int x1] [] (mk D ct)) : RUN X C 100 Q 0 [.ref 0, .int x1] [] (mk D ct) :=
  s_iload_n c100_0 rfl <|
  s_switch c100_1 kk
theorem b100_60 {x1 : Int32} {D1 : zD} {ct1 : zM} {v1 : Int32} (he : C 36 [.ref 11] (mk D ct) (some (.int v1)) (mk D1 ct1)) (kk : RUN X C 100 Q 67 [.ref 0, .int x1] [.int v1] (mk D1 ct1)) : RUN X C 100 Q 60 [.ref 0, .int x1] [] (mk D ct) :=
  s_aload_n c100_60 rfl <|
  s_getf (ct := ct) c100_61 rfl (by decide) rfl <|
  s_callv (args := []) (r := []) c100_64 rfl rfl (Nat.le_of_ble_eq_true rfl) rfl ⟨rfl, by decide⟩ he kk
theorem b100_67 {x1 : Int32} {xs0 : Int32} (hq : Q (some (.int xs0)) (mk D ct)) : RUN X C 100 Q 67 [.ref 0, .int x1] [.int xs0] (mk D ct) :=
  s_iret c100_67 (xrtI rfl) hq
theorem b100_68 {x1 : Int32} (hq : Q (some (.int (ct 11 0))) (mk D ct)) : RUN X C 100 Q 68 [.ref 0, .int x1] [] (mk D ct) :=
  s_aload_n c100_68 rfl <|
  s_getf (ct := ct) c100_69 rfl (by decide) rfl <|
  s_getf (ct := ct) c100_72 rfl (by decide) rfl <|
  s_iret c100_75 (xrtI rfl) hq
theorem b100_76 {x1 : Int32} {D1 : zD} {ct1 : zM} {v1 : Int32} (he : C 101 [.ref 14] (mk D ct) (some (.int v1)) (mk D1 ct1)) (kk : RUN X C 100 Q 83 [.ref 0, .int x1] [.int v1] (mk D1 ct1)) : RUN X C 100 Q 76 [.ref 0, .int x1] [] (mk D ct) :=
  s_aload_n c100_76 rfl <|
  s_getf (ct := ct) c100_77 rfl (by decide) rfl <|
  s_callv (args := []) (r := []) c100_80 rfl rfl (Nat.le_of_ble_eq_true rfl) rfl ⟨rfl, by decide⟩ he kk
theorem b100_83 {x1 : Int32} {xs0 : Int32} (hq : Q (some (.int xs0)) (mk D ct)) : RUN X C 100 Q 83 [.ref 0, .int x1] [.int xs0] (mk D ct) :=
  s_iret c100_83 (xrtI rfl) hq
theorem b100_84 {x1 : Int32} (hq : Q (some (.int (ct 14 5))) (mk D ct)) : RUN X C 100 Q 84 [.ref 0, .int x1] [] (mk D ct) :=
  s_aload_n c100_84 rfl <|
  s_getf (ct := ct) c100_85 rfl (by decide) rfl <|
  s_getf (ct := ct) c100_88 rfl (by decide) rfl <|
  s_iret c100_91 (xrtI rfl) hq
theorem b100_92 {x1 : Int32} (hq : Q (some (.int (ct 14 3))) (mk D ct)) : RUN X C 100 Q 92 [.ref 0, .int x1] [] (mk D ct) :=
  s_aload_n c100_92 rfl <|
  s_getf (ct := ct) c100_93 rfl (by decide) rfl <|
  s_getf (ct := ct) c100_96 rfl (by decide) rfl <|
  s_iret c100_99 (xrtI rfl) hq
theorem b100_100 {x1 : Int32} (hq : Q (some (.int (ct 14 4))) (mk D ct)) : RUN X C 100 Q 100 [.ref 0, .int x1] [] (mk D ct) :=
  s_aload_n c100_100 rfl <|
  s_getf (ct := ct) c100_101 rfl (by decide) rfl <|
  s_getf (ct := ct) c100_104 rfl (by decide) rfl <|
  s_iret c100_107 (xrtI rfl) hq
theorem b100_108 {x1 : Int32} (hq : Q (some (.int (ct 11 2))) (mk D ct)) : RUN X C 100 Q 108 [.ref 0, .int x1] [] (mk D ct) :=
  s_aload_n c100_108 rfl <|
  s_getf (ct := ct) c100_109 rfl (by decide) rfl <|
  s_getf (ct := ct) c100_112 rfl (by decide) rfl <|
  s_iret c100_115 (xrtI rfl) hq
theorem b100_116 {x1 : Int32} (hq : Q (some (.int (ct 0 10))) (mk D ct)) : RUN X C 100 Q 116 [.ref 0, .int x1] [] (mk D ct) :=
  s_aload_n c100_116 rfl <|
  s_getf (ct := ct) c100_117 rfl (by decide) rfl <|
  s_iret c100_120 (xrtI rfl) hq
theorem b100_121 {x1 : Int32} (hq : Q (some (.int (ct 18 2))) (mk D ct)) : RUN X C 100 Q 121 [.ref 0, .int x1] [] (mk D ct) :=
  s_aload_n c100_121 rfl <|
  s_getf (ct := ct) c100_122 rfl (by decide) rfl <|
  s_getf (ct := ct) c100_125 rfl (by decide) rfl <|
  s_iret c100_128 (xrtI rfl) hq
theorem b100_129 {x1 : Int32} (hq : Q (some (.int (ct 20 2))) (mk D ct)) : RUN X C 100 Q 129 [.ref 0, .int x1] [] (mk D ct) :=
  s_aload_n c100_129 rfl <|
  s_getf (ct := ct) c100_130 rfl (by decide) rfl <|
  s_getf (ct := ct) c100_133 rfl (by decide) rfl <|
  s_iret c100_136 (xrtI rfl) hq
theorem b100_137 {x1 : Int32} (hq : Q (some (.int (ct 1 1))) (mk D ct)) : RUN X C 100 Q 137 [.ref 0, .int x1] [] (mk D ct) :=
  s_aload_n c100_137 rfl <|
  s_getf (ct := ct) c100_138 rfl (by decide) rfl <|
  s_getf (ct := ct) c100_141 rfl (by decide) rfl <|
  s_iret c100_144 (xrtI rfl) hq
theorem b100_145 {x1 : Int32} (hq : Q (some (.int (-1))) (mk D ct)) : RUN X C 100 Q 145 [.ref 0, .int x1] [] (mk D ct) :=
  s_const c100_145 zcI_m1 <|
  s_iret c100_146 (xrtI rfl) hq
-- ('PaintedTown$Town', 'canvasCount', '()I')
theorem b101_0 {a0 : Nat} (ha0 : zsh D a0 = (3, 0)) {l1 : Value} {l2 : Value} (kk : RUN X C 101 Q 4 [.ref a0, .int (nI 0), .int (nI 0)] [] (mk D ct)) : RUN X C 101 Q 0 [.ref a0, l1, l2] [] (mk D ct) :=
  s_const c101_0 zcI_0 <|
  s_istore_n c101_1 (Nat.le_of_ble_eq_true rfl) True.intro <|
  s_const c101_2 zcI_0 <|
  s_istore_n c101_3 (Nat.le_of_ble_eq_true rfl) True.intro <|
  kk
theorem b101_4 {a0 : Nat} (ha0 : zsh D a0 = (3, 0)) {x1 : Int32} {x2 : Int32} (k1 : (nI 36) ≤ x2 → RUN X C 101 Q 28 [.ref a0, .int x1, .int x2] [] (mk D ct)) (k2 : ¬ (nI 36) ≤ x2 → RUN X C 101 Q 10 [.ref a0, .int x1, .int x2] [] (mk D ct)) : RUN X C 101 Q 4 [.ref a0, .int x1, .int x2] [] (mk D ct) :=
  s_iload_n c101_4 rfl <|
  s_bipush c101_5 zcB_36 <|
  s_icge c101_7 k1 k2
theorem b101_10 {a0 : Nat} (ha0 : zsh D a0 = (3, 0)) {x1 : Int32} {x2 : Int32} {j15 : Nat} (hx15 : zix x2 j15 36) (k1 : (ct (a0 + 3) j15) = (nI 0) → RUN X C 101 Q 22 [.ref a0, .int x1, .int x2] [] (mk D ct)) (k2 : ¬ (ct (a0 + 3) j15) = (nI 0) → RUN X C 101 Q 19 [.ref a0, .int x1, .int x2] [] (mk D ct)) : RUN X C 101 Q 10 [.ref a0, .int x1, .int x2] [] (mk D ct) :=
  s_aload_n c101_10 rfl <|
  s_getf (ct := ct) c101_11 ha0 (by decide) rfl <|
  s_iload_n c101_14 rfl <|
  s_bald (ct := ct) c101_15 (zsh_t3 ha0) hx15 <|
  s_ifeq c101_16 k1 k2
theorem b101_19 {a0 : Nat} (ha0 : zsh D a0 = (3, 0)) {x1 : Int32} {x2 : Int32} (kk : RUN X C 101 Q 4 [.ref a0, .int (x1 + nI 1), .int (x2 + nI 1)] [] (mk D ct)) : RUN X C 101 Q 19 [.ref a0, .int x1, .int x2] [] (mk D ct) :=
  s_iinc c101_19 rfl True.intro zcI_1 <|
  s_iinc c101_22 rfl True.intro zcI_1 <|
  s_goto c101_25 <|
  kk
theorem b101_22 {a0 : Nat} (ha0 : zsh D a0 = (3, 0)) {x1 : Int32} {x2 : Int32} (kk : RUN X C 101 Q 4 [.ref a0, .int x1, .int (x2 + nI 1)] [] (mk D ct)) : RUN X C 101 Q 22 [.ref a0, .int x1, .int x2] [] (mk D ct) :=
  s_iinc c101_22 rfl True.intro zcI_1 <|
  s_goto c101_25 <|
  kk
theorem b101_28 {a0 : Nat} (ha0 : zsh D a0 = (3, 0)) {x1 : Int32} {x2 : Int32} (hq : Q (some (.int x1)) (mk D ct)) : RUN X C 101 Q 28 [.ref a0, .int x1, .int x2] [] (mk D ct) :=
  s_iload_n c101_28 rfl <|
  s_iret c101_29 (xrtI rfl) hq
end
