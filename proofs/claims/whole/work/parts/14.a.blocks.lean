/-! Rows of code, and blocks of them: printed by wip/whole/runblk.py. -/
theorem zcI_m1 : Int32.ofInt (-1) = (-1) := by decide
theorem zcI_0 : Int32.ofInt 0 = nI 0 := by decide
theorem zcI_1 : Int32.ofInt 1 = nI 1 := by decide
theorem zcI_2 : Int32.ofInt 2 = nI 2 := by decide
theorem zcI_3 : Int32.ofInt 3 = nI 3 := by decide
theorem zcI_4 : Int32.ofInt 4 = nI 4 := by decide
theorem zcI_5 : Int32.ofInt 5 = nI 5 := by decide
theorem zcB_m4 : (Int8.ofInt (-4)).toInt32 = (-4) := by decide
theorem zcB_m3 : (Int8.ofInt (-3)).toInt32 = (-3) := by decide
theorem zcB_m2 : (Int8.ofInt (-2)).toInt32 = (-2) := by decide
theorem zcB_6 : (Int8.ofInt 6).toInt32 = nI 6 := by decide
theorem zcB_7 : (Int8.ofInt 7).toInt32 = nI 7 := by decide
theorem zcB_8 : (Int8.ofInt 8).toInt32 = nI 8 := by decide
theorem zcB_9 : (Int8.ofInt 9).toInt32 = nI 9 := by decide
theorem zcB_10 : (Int8.ofInt 10).toInt32 = nI 10 := by decide
theorem zcB_20 : (Int8.ofInt 20).toInt32 = nI 20 := by decide
theorem zcB_21 : (Int8.ofInt 21).toInt32 = nI 21 := by decide
theorem zcB_32 : (Int8.ofInt 32).toInt32 = nI 32 := by decide
theorem zcB_36 : (Int8.ofInt 36).toInt32 = nI 36 := by decide
theorem zcB_40 : (Int8.ofInt 40).toInt32 = nI 40 := by decide
theorem zcB_44 : (Int8.ofInt 44).toInt32 = nI 44 := by decide
theorem zcB_45 : (Int8.ofInt 45).toInt32 = nI 45 := by decide
theorem zcB_48 : (Int8.ofInt 48).toInt32 = nI 48 := by decide
theorem zcB_57 : (Int8.ofInt 57).toInt32 = nI 57 := by decide
theorem zcB_59 : (Int8.ofInt 59).toInt32 = nI 59 := by decide
theorem zcB_64 : (Int8.ofInt 64).toInt32 = nI 64 := by decide
theorem zcB_72 : (Int8.ofInt 72).toInt32 = nI 72 := by decide
theorem zcB_81 : (Int8.ofInt 81).toInt32 = nI 81 := by decide
theorem zcB_99 : (Int8.ofInt 99).toInt32 = nI 99 := by decide
theorem zcB_100 : (Int8.ofInt 100).toInt32 = nI 100 := by decide
theorem zcB_108 : (Int8.ofInt 108).toInt32 = nI 108 := by decide
theorem zcB_109 : (Int8.ofInt 109).toInt32 = nI 109 := by decide
theorem zcB_110 : (Int8.ofInt 110).toInt32 = nI 110 := by decide
theorem zcB_111 : (Int8.ofInt 111).toInt32 = nI 111 := by decide
theorem zcB_118 : (Int8.ofInt 118).toInt32 = nI 118 := by decide
theorem zcB_126 : (Int8.ofInt 126).toInt32 = nI 126 := by decide
theorem zcS_200 : (Int16.ofInt 200).toInt32 = nI 200 := by decide
theorem zcS_777 : (Int16.ofInt 777).toInt32 = nI 777 := by decide
theorem zcS_999 : (Int16.ofInt 999).toInt32 = nI 999 := by decide
theorem zcS_9999 : (Int16.ofInt 9999).toInt32 = nI 9999 := by decide
theorem zpI : parseFieldDescriptor "I" = some .int := by decide +kernel
theorem zpZ : parseFieldDescriptor "Z" = some .boolean := by decide +kernel
theorem zint_0_10 : zint 0 10 := fun a r v => ⟨Nat.le_of_ble_eq_true rfl, rfl⟩
theorem xfit_0_10 {v : Int32} : xfit 0 10 (.int v) := xfit_i (T := xT0) rfl zpI
theorem zint_1_1 : zint 1 1 := fun a r v => ⟨Nat.le_of_ble_eq_true rfl, rfl⟩
theorem xfit_1_1 {v : Int32} : xfit 1 1 (.int v) := xfit_i (T := xT1) rfl zpI
theorem zint_1_5 : zint 1 5 := fun a r v => ⟨Nat.le_of_ble_eq_true rfl, rfl⟩
theorem xfit_1_5 {v : Int32} : xfit 1 5 (.int v) := xfit_i (T := xT1) rfl zpI
theorem zint_1_6 : zint 1 6 := fun a r v => ⟨Nat.le_of_ble_eq_true rfl, rfl⟩
theorem xfit_1_6 {v : Int32} (hv : v = nI 0 ∨ v = nI 1) : xfit 1 6 (.int v) := xfit_z (T := xT1) rfl zpZ hv
theorem zint_2_0 : zint 2 0 := fun a r v => ⟨Nat.le_of_ble_eq_true rfl, rfl⟩
theorem xfit_2_0 {v : Int32} : xfit 2 0 (.int v) := xfit_i (T := xT2) rfl zpI
theorem zint_2_1 : zint 2 1 := fun a r v => ⟨Nat.le_of_ble_eq_true rfl, rfl⟩
theorem xfit_2_1 {v : Int32} : xfit 2 1 (.int v) := xfit_i (T := xT2) rfl zpI
theorem zint_2_2 : zint 2 2 := fun a r v => ⟨Nat.le_of_ble_eq_true rfl, rfl⟩
theorem xfit_2_2 {v : Int32} : xfit 2 2 (.int v) := xfit_i (T := xT2) rfl zpI
theorem zint_3_3 : zint 3 3 := fun a r v => ⟨Nat.le_of_ble_eq_true rfl, rfl⟩
theorem xfit_3_3 {v : Int32} : xfit 3 3 (.int v) := xfit_i (T := xT3) rfl zpI
theorem zint_3_4 : zint 3 4 := fun a r v => ⟨Nat.le_of_ble_eq_true rfl, rfl⟩
theorem xfit_3_4 {v : Int32} : xfit 3 4 (.int v) := xfit_i (T := xT3) rfl zpI
theorem zint_3_5 : zint 3 5 := fun a r v => ⟨Nat.le_of_ble_eq_true rfl, rfl⟩
theorem xfit_3_5 {v : Int32} : xfit 3 5 (.int v) := xfit_i (T := xT3) rfl zpI
theorem zint_4_1 : zint 4 1 := fun a r v => ⟨Nat.le_of_ble_eq_true rfl, rfl⟩
theorem xfit_4_1 {v : Int32} : xfit 4 1 (.int v) := xfit_i (T := xT4) rfl zpI
theorem zint_4_2 : zint 4 2 := fun a r v => ⟨Nat.le_of_ble_eq_true rfl, rfl⟩
theorem xfit_4_2 {v : Int32} : xfit 4 2 (.int v) := xfit_i (T := xT4) rfl zpI
theorem zint_5_3 : zint 5 3 := fun a r v => ⟨Nat.le_of_ble_eq_true rfl, rfl⟩
theorem xfit_5_3 {v : Int32} : xfit 5 3 (.int v) := xfit_i (T := xT5) rfl zpI
theorem zint_5_4 : zint 5 4 := fun a r v => ⟨Nat.le_of_ble_eq_true rfl, rfl⟩
theorem xfit_5_4 {v : Int32} : xfit 5 4 (.int v) := xfit_i (T := xT5) rfl zpI
theorem zint_5_5 : zint 5 5 := fun a r v => ⟨Nat.le_of_ble_eq_true rfl, rfl⟩
theorem xfit_5_5 {v : Int32} : xfit 5 5 (.int v) := xfit_i (T := xT5) rfl zpI
theorem zint_6_5 : zint 6 5 := fun a r v => ⟨Nat.le_of_ble_eq_true rfl, rfl⟩
theorem xfit_6_5 {v : Int32} (hv : v = nI 0 ∨ v = nI 1) : xfit 6 5 (.int v) := xfit_z (T := xT6) rfl zpZ hv
theorem zint_6_6 : zint 6 6 := fun a r v => ⟨Nat.le_of_ble_eq_true rfl, rfl⟩
theorem xfit_6_6 {v : Int32} (hv : v = nI 0 ∨ v = nI 1) : xfit 6 6 (.int v) := xfit_z (T := xT6) rfl zpZ hv
theorem zint_6_7 : zint 6 7 := fun a r v => ⟨Nat.le_of_ble_eq_true rfl, rfl⟩
theorem xfit_6_7 {v : Int32} : xfit 6 7 (.int v) := xfit_i (T := xT6) rfl zpI
theorem zint_6_8 : zint 6 8 := fun a r v => ⟨Nat.le_of_ble_eq_true rfl, rfl⟩
theorem xfit_6_8 {v : Int32} : xfit 6 8 (.int v) := xfit_i (T := xT6) rfl zpI
theorem zint_7_5 : zint 7 5 := fun a r v => ⟨Nat.le_of_ble_eq_true rfl, rfl⟩
theorem xfit_7_5 {v : Int32} : xfit 7 5 (.int v) := xfit_i (T := xT7) rfl zpI
theorem zint_7_7 : zint 7 7 := fun a r v => ⟨Nat.le_of_ble_eq_true rfl, rfl⟩
theorem xfit_7_7 {v : Int32} : xfit 7 7 (.int v) := xfit_i (T := xT7) rfl zpI
theorem zint_7_9 : zint 7 9 := fun a r v => ⟨Nat.le_of_ble_eq_true rfl, rfl⟩
theorem xfit_7_9 {v : Int32} : xfit 7 9 (.int v) := xfit_i (T := xT7) rfl zpI
theorem zint_7_11 : zint 7 11 := fun a r v => ⟨Nat.le_of_ble_eq_true rfl, rfl⟩
theorem xfit_7_11 {v : Int32} : xfit 7 11 (.int v) := xfit_i (T := xT7) rfl zpI
theorem zint_7_12 : zint 7 12 := fun a r v => ⟨Nat.le_of_ble_eq_true rfl, rfl⟩
theorem xfit_7_12 {v : Int32} (hv : v = nI 0 ∨ v = nI 1) : xfit 7 12 (.int v) := xfit_z (T := xT7) rfl zpZ hv
theorem zint_7_13 : zint 7 13 := fun a r v => ⟨Nat.le_of_ble_eq_true rfl, rfl⟩
theorem xfit_7_13 {v : Int32} : xfit 7 13 (.int v) := xfit_i (T := xT7) rfl zpI
theorem zint_7_17 : zint 7 17 := fun a r v => ⟨Nat.le_of_ble_eq_true rfl, rfl⟩
theorem xfit_7_17 {v : Int32} : xfit 7 17 (.int v) := xfit_i (T := xT7) rfl zpI
theorem zint_7_18 : zint 7 18 := fun a r v => ⟨Nat.le_of_ble_eq_true rfl, rfl⟩
theorem xfit_7_18 {v : Int32} : xfit 7 18 (.int v) := xfit_i (T := xT7) rfl zpI
theorem c19_0 : xCD 19 0 = some (.aload_n 0, []) := rfl
theorem c19_1 : xCD 19 1 = some (.getfield 15, [1, 1, 69]) := rfl
theorem c19_4 : xCD 19 4 = some (.ifCond .lt 13, [17]) := rfl
theorem c19_7 : xCD 19 7 = some (.aload_n 0, []) := rfl
theorem c19_8 : xCD 19 8 = some (.getfield 15, [1, 1, 69]) := rfl
theorem c19_11 : xCD 19 11 = some (.sipush 200, []) := rfl
theorem c19_14 : xCD 19 14 = some (.if_icmp .lt 5, [19]) := rfl
theorem c19_17 : xCD 19 17 = some (.iconst 0, []) := rfl
theorem c19_18 : xCD 19 18 = some (.ireturn, []) := rfl
theorem c19_19 : xCD 19 19 = some (.aload_n 0, []) := rfl
theorem c19_20 : xCD 19 20 = some (.getfield 9, [1, 0, 68]) := rfl
theorem c19_23 : xCD 19 23 = some (.aload_n 0, []) := rfl
theorem c19_24 : xCD 19 24 = some (.getfield 15, [1, 1, 69]) := rfl
theorem c19_27 : xCD 19 27 = some (.iload_n 1, []) := rfl
theorem c19_28 : xCD 19 28 = some (.castore, []) := rfl
theorem c19_29 : xCD 19 29 = some (.aload_n 0, []) := rfl
theorem c19_30 : xCD 19 30 = some (.dup, []) := rfl
theorem c19_31 : xCD 19 31 = some (.getfield 15, [1, 1, 69]) := rfl
theorem c19_34 : xCD 19 34 = some (.iconst 1, []) := rfl
theorem c19_35 : xCD 19 35 = some (.iadd, []) := rfl
theorem c19_36 : xCD 19 36 = some (.putfield 15, [1, 1, 69]) := rfl
theorem c19_39 : xCD 19 39 = some (.iconst 1, []) := rfl
theorem c19_40 : xCD 19 40 = some (.ireturn, []) := rfl
theorem c20_0 : xCD 20 0 = some (.aload_n 0, []) := rfl
theorem c20_1 : xCD 20 1 = some (.getfield 10, [0, 0, 8]) := rfl
theorem c20_4 : xCD 20 4 = some (.getfield 91, [1, 1, 65]) := rfl
theorem c20_7 : xCD 20 7 = some (.ifCond .eq 15, [22]) := rfl
theorem c20_10 : xCD 20 10 = some (.aload_n 0, []) := rfl
theorem c20_11 : xCD 20 11 = some (.getfield 10, [0, 0, 8]) := rfl
theorem c20_14 : xCD 20 14 = some (.invokevirtual 93, [21, 0, 0, 134, 136, 5, 135, 137]) := rfl
theorem c20_17 : xCD 20 17 = some (.bipush (-4), []) := rfl
theorem c20_19 : xCD 20 19 = some (.if_icmp .eq 6, [25]) := rfl
theorem c20_22 : xCD 20 22 = some (.bipush (-2), []) := rfl
theorem c20_24 : xCD 20 24 = some (.ireturn, []) := rfl
theorem c20_25 : xCD 20 25 = some (.aload_n 0, []) := rfl
theorem c20_26 : xCD 20 26 = some (.getfield 10, [0, 0, 8]) := rfl
theorem c20_29 : xCD 20 29 = some (.getfield 228, [1, 2, 138]) := rfl
theorem c20_32 : xCD 20 32 = some (.aload_n 0, []) := rfl
theorem c20_33 : xCD 20 33 = some (.getfield 10, [0, 0, 8]) := rfl
theorem c20_36 : xCD 20 36 = some (.getfield 229, [1, 3, 139]) := rfl
theorem c20_39 : xCD 20 39 = some (.getfield 153, [3, 4, 140]) := rfl
theorem c20_42 : xCD 20 42 = some (.invokevirtual 96, [30, 1, 0, 141, 143, 11, 142, 144]) := rfl
theorem c20_45 : xCD 20 45 = some (.ifCond .ne 6, [51]) := rfl
theorem c20_48 : xCD 20 48 = some (.bipush (-2), []) := rfl
theorem c20_50 : xCD 20 50 = some (.ireturn, []) := rfl
theorem c20_51 : xCD 20 51 = some (.aload_n 0, []) := rfl
theorem c20_52 : xCD 20 52 = some (.getfield 19, [0, 1, 14]) := rfl
theorem c20_55 : xCD 20 55 = some (.aload_n 0, []) := rfl
theorem c20_56 : xCD 20 56 = some (.getfield 10, [0, 0, 8]) := rfl
theorem c20_59 : xCD 20 59 = some (.getfield 228, [1, 2, 138]) := rfl
theorem c20_62 : xCD 20 62 = some (.invokevirtual 230, [33, 1, 0, 145, 147, 11, 146, 148]) := rfl
theorem c20_65 : xCD 20 65 = some (.aload_n 0, []) := rfl
theorem c20_66 : xCD 20 66 = some (.getfield 26, [0, 2, 20]) := rfl
theorem c20_69 : xCD 20 69 = some (.aload_n 0, []) := rfl
theorem c20_70 : xCD 20 70 = some (.getfield 10, [0, 0, 8]) := rfl
theorem c20_73 : xCD 20 73 = some (.getfield 229, [1, 3, 139]) := rfl
theorem c20_76 : xCD 20 76 = some (.invokevirtual 234, [34, 1, 0, 149, 151, 17, 150, 152]) := rfl
theorem c20_79 : xCD 20 79 = some (.aload_n 0, []) := rfl
theorem c20_80 : xCD 20 80 = some (.getfield 33, [0, 3, 26]) := rfl
theorem c20_83 : xCD 20 83 = some (.invokevirtual 222, [35, 0, 0, 153, 155, 23, 154, 156]) := rfl
theorem c20_86 : xCD 20 86 = some (.aload_n 0, []) := rfl
theorem c20_87 : xCD 20 87 = some (.getfield 37, [0, 4, 27]) := rfl
theorem c20_90 : xCD 20 90 = some (.invokevirtual 222, [35, 0, 0, 153, 155, 23, 154, 156]) := rfl
theorem c20_93 : xCD 20 93 = some (.aload_n 0, []) := rfl
theorem c20_94 : xCD 20 94 = some (.iconst 0, []) := rfl
theorem c20_95 : xCD 20 95 = some (.putfield 68, [0, 10, 46]) := rfl
theorem c20_98 : xCD 20 98 = some (.aload_n 0, []) := rfl
theorem c20_99 : xCD 20 99 = some (.getfield 19, [0, 1, 14]) := rfl
theorem c20_102 : xCD 20 102 = some (.invokevirtual 192, [36, 0, 0, 157, 159, 11, 158, 160]) := rfl
theorem c20_105 : xCD 20 105 = some (.ireturn, []) := rfl
theorem c21_0 : xCD 21 0 = some (.aload_n 0, []) := rfl
theorem c21_1 : xCD 21 1 = some (.getfield 22, [1, 2, 71]) := rfl
theorem c21_4 : xCD 21 4 = some (.invokevirtual 44, [22, 0, 0, 161, 163, 11, 162, 164]) := rfl
theorem c21_7 : xCD 21 7 = some (.aload_n 0, []) := rfl
theorem c21_8 : xCD 21 8 = some (.getfield 29, [1, 3, 73]) := rfl
theorem c21_11 : xCD 21 11 = some (.invokevirtual 47, [23, 0, 0, 165, 167, 17, 166, 168]) := rfl
theorem c21_14 : xCD 21 14 = some (.aload_n 0, []) := rfl
theorem c21_15 : xCD 21 15 = some (.iconst 0, []) := rfl
theorem c21_16 : xCD 21 16 = some (.putfield 40, [1, 6, 76]) := rfl
theorem c21_19 : xCD 21 19 = some (.iconst 0, []) := rfl
theorem c21_20 : xCD 21 20 = some (.istore_n 1, []) := rfl
theorem c21_21 : xCD 21 21 = some (.iconst 0, []) := rfl
theorem c21_22 : xCD 21 22 = some (.istore_n 2, []) := rfl
theorem c21_23 : xCD 21 23 = some (.iload_n 2, []) := rfl
theorem c21_24 : xCD 21 24 = some (.sipush 200, []) := rfl
theorem c21_27 : xCD 21 27 = some (.if_icmp .ge 47, [74]) := rfl
theorem c21_30 : xCD 21 30 = some (.iload_n 1, []) := rfl
theorem c21_31 : xCD 21 31 = some (.aload_n 0, []) := rfl
theorem c21_32 : xCD 21 32 = some (.getfield 15, [1, 1, 69]) := rfl
theorem c21_35 : xCD 21 35 = some (.if_icmp .ge 39, [74]) := rfl
theorem c21_38 : xCD 21 38 = some (.aload_n 0, []) := rfl
theorem c21_39 : xCD 21 39 = some (.iload_n 1, []) := rfl
theorem c21_40 : xCD 21 40 = some (.iconst 1, []) := rfl
theorem c21_41 : xCD 21 41 = some (.iadd, []) := rfl
theorem c21_42 : xCD 21 42 = some (.invokevirtual 48, [24, 1, 0, 169, 171, 5, 170, 172]) := rfl
theorem c21_45 : xCD 21 45 = some (.istore_n 3, []) := rfl
theorem c21_46 : xCD 21 46 = some (.iload_n 3, []) := rfl
theorem c21_47 : xCD 21 47 = some (.bipush (-4), []) := rfl
theorem c21_49 : xCD 21 49 = some (.if_icmp .eq 15, [64]) := rfl
theorem c21_52 : xCD 21 52 = some (.aload_n 0, []) := rfl
theorem c21_53 : xCD 21 53 = some (.aload_n 0, []) := rfl
theorem c21_54 : xCD 21 54 = some (.iload_n 1, []) := rfl
theorem c21_55 : xCD 21 55 = some (.invokevirtual 52, [25, 1, 0, 173, 175, 5, 174, 176]) := rfl
theorem c21_58 : xCD 21 58 = some (.invokevirtual 55, [27, 1, 0, 177, 179, 5, 178, 180]) := rfl
theorem c21_61 : xCD 21 61 = some (.ifCond .ne 5, [66]) := rfl
theorem c21_64 : xCD 21 64 = some (.iload_n 1, []) := rfl
theorem c21_65 : xCD 21 65 = some (.ireturn, []) := rfl
theorem c21_66 : xCD 21 66 = some (.iload_n 3, []) := rfl
theorem c21_67 : xCD 21 67 = some (.istore_n 1, []) := rfl
theorem c21_68 : xCD 21 68 = some (.iinc 2 1, []) := rfl
theorem c21_71 : xCD 21 71 = some (.goto (-48), [23]) := rfl
theorem c21_74 : xCD 21 74 = some (.bipush (-4), []) := rfl
theorem c21_76 : xCD 21 76 = some (.ireturn, []) := rfl
theorem c22_0 : xCD 22 0 = some (.aload_n 0, []) := rfl
theorem c22_1 : xCD 22 1 = some (.iconst 4, []) := rfl
theorem c22_2 : xCD 22 2 = some (.putfield 18, [2, 0, 181]) := rfl
theorem c22_5 : xCD 22 5 = some (.aload_n 0, []) := rfl
theorem c22_6 : xCD 22 6 = some (.iconst 5, []) := rfl
theorem c22_7 : xCD 22 7 = some (.putfield 22, [2, 1, 182]) := rfl
theorem c22_10 : xCD 22 10 = some (.aload_n 0, []) := rfl
theorem c22_11 : xCD 22 11 = some (.bipush 10, []) := rfl
theorem c22_13 : xCD 22 13 = some (.putfield 25, [2, 2, 183]) := rfl
theorem c22_16 : xCD 22 16 = some (.iconst 0, []) := rfl
theorem c22_17 : xCD 22 17 = some (.istore_n 1, []) := rfl
theorem c22_18 : xCD 22 18 = some (.iload_n 1, []) := rfl
theorem c22_19 : xCD 22 19 = some (.bipush 36, []) := rfl
theorem c22_21 : xCD 22 21 = some (.if_icmp .ge 16, [37]) := rfl
theorem c22_24 : xCD 22 24 = some (.aload_n 0, []) := rfl
theorem c22_25 : xCD 22 25 = some (.getfield 9, [2, 3, 78]) := rfl
theorem c22_28 : xCD 22 28 = some (.iload_n 1, []) := rfl
theorem c22_29 : xCD 22 29 = some (.iconst 0, []) := rfl
theorem c22_30 : xCD 22 30 = some (.iastore, []) := rfl
theorem c22_31 : xCD 22 31 = some (.iinc 1 1, []) := rfl
theorem c22_34 : xCD 22 34 = some (.goto (-16), [18]) := rfl
theorem c22_37 : xCD 22 37 = some (.iconst 0, []) := rfl
theorem c22_38 : xCD 22 38 = some (.istore_n 1, []) := rfl
theorem c22_39 : xCD 22 39 = some (.iload_n 1, []) := rfl
theorem c22_40 : xCD 22 40 = some (.iconst 4, []) := rfl
theorem c22_41 : xCD 22 41 = some (.if_icmp .ge 25, [66]) := rfl
theorem c22_44 : xCD 22 44 = some (.aload_n 0, []) := rfl
theorem c22_45 : xCD 22 45 = some (.getfield 15, [2, 4, 79]) := rfl
theorem c22_48 : xCD 22 48 = some (.iload_n 1, []) := rfl
theorem c22_49 : xCD 22 49 = some (.iload_n 1, []) := rfl
theorem c22_50 : xCD 22 50 = some (.ifCond .ne 8, [58]) := rfl
theorem c22_53 : xCD 22 53 = some (.bipush 10, []) := rfl
theorem c22_55 : xCD 22 55 = some (.goto 4, [59]) := rfl
theorem c22_58 : xCD 22 58 = some (.iconst 0, []) := rfl
theorem c22_59 : xCD 22 59 = some (.iastore, []) := rfl
theorem c22_60 : xCD 22 60 = some (.iinc 1 1, []) := rfl
theorem c22_63 : xCD 22 63 = some (.goto (-24), [39]) := rfl
theorem c22_66 : xCD 22 66 = some (.return_, []) := rfl
theorem c23_0 : xCD 23 0 = some (.iconst 0, []) := rfl
theorem c23_1 : xCD 23 1 = some (.istore_n 1, []) := rfl
theorem c23_2 : xCD 23 2 = some (.iload_n 1, []) := rfl
theorem c23_3 : xCD 23 3 = some (.bipush 36, []) := rfl
theorem c23_5 : xCD 23 5 = some (.if_icmp .ge 30, [35]) := rfl
theorem c23_8 : xCD 23 8 = some (.aload_n 0, []) := rfl
theorem c23_9 : xCD 23 9 = some (.getfield 9, [3, 0, 81]) := rfl
theorem c23_12 : xCD 23 12 = some (.iload_n 1, []) := rfl
theorem c23_13 : xCD 23 13 = some (.iconst 0, []) := rfl
theorem c23_14 : xCD 23 14 = some (.iastore, []) := rfl
theorem c23_15 : xCD 23 15 = some (.aload_n 0, []) := rfl
theorem c23_16 : xCD 23 16 = some (.getfield 15, [3, 1, 82]) := rfl
theorem c23_19 : xCD 23 19 = some (.iload_n 1, []) := rfl
theorem c23_20 : xCD 23 20 = some (.iconst 0, []) := rfl
theorem c23_21 : xCD 23 21 = some (.iastore, []) := rfl
theorem c23_22 : xCD 23 22 = some (.aload_n 0, []) := rfl
theorem c23_23 : xCD 23 23 = some (.getfield 18, [3, 2, 84]) := rfl
theorem c23_26 : xCD 23 26 = some (.iload_n 1, []) := rfl
theorem c23_27 : xCD 23 27 = some (.iconst 0, []) := rfl
theorem c23_28 : xCD 23 28 = some (.bastore, []) := rfl
theorem c23_29 : xCD 23 29 = some (.iinc 1 1, []) := rfl
theorem c23_32 : xCD 23 32 = some (.goto (-30), [2]) := rfl
theorem c23_35 : xCD 23 35 = some (.aload_n 0, []) := rfl
theorem c23_36 : xCD 23 36 = some (.iconst 0, []) := rfl
theorem c23_37 : xCD 23 37 = some (.putfield 22, [3, 3, 184]) := rfl
theorem c23_40 : xCD 23 40 = some (.aload_n 0, []) := rfl
theorem c23_41 : xCD 23 41 = some (.iconst 0, []) := rfl
theorem c23_42 : xCD 23 42 = some (.putfield 26, [3, 4, 185]) := rfl
theorem c23_45 : xCD 23 45 = some (.aload_n 0, []) := rfl
theorem c23_46 : xCD 23 46 = some (.iconst 0, []) := rfl
theorem c23_47 : xCD 23 47 = some (.putfield 29, [3, 5, 186]) := rfl
theorem c23_50 : xCD 23 50 = some (.return_, []) := rfl
theorem c24_0 : xCD 24 0 = some (.iload_n 1, []) := rfl
theorem c24_1 : xCD 24 1 = some (.istore_n 2, []) := rfl
theorem c24_2 : xCD 24 2 = some (.iconst 0, []) := rfl
theorem c24_3 : xCD 24 3 = some (.istore_n 3, []) := rfl
theorem c24_4 : xCD 24 4 = some (.iload_n 3, []) := rfl
theorem c24_5 : xCD 24 5 = some (.iconst 4, []) := rfl
theorem c24_6 : xCD 24 6 = some (.if_icmp .ge 110, [116]) := rfl
theorem c24_9 : xCD 24 9 = some (.aload_n 0, []) := rfl
theorem c24_10 : xCD 24 10 = some (.iload_n 2, []) := rfl
theorem c24_11 : xCD 24 11 = some (.invokevirtual 52, [25, 1, 0, 173, 175, 5, 174, 176]) := rfl
theorem c24_14 : xCD 24 14 = some (.invokestatic 59, [26, 1, 0, 187, 189, 5, 188]) := rfl
theorem c24_17 : xCD 24 17 = some (.ifCond .ne 6, [23]) := rfl
theorem c24_20 : xCD 24 20 = some (.bipush (-4), []) := rfl
theorem c24_22 : xCD 24 22 = some (.ireturn, []) := rfl
theorem c24_23 : xCD 24 23 = some (.aload_n 0, []) := rfl
theorem c24_24 : xCD 24 24 = some (.iload_n 2, []) := rfl
theorem c24_25 : xCD 24 25 = some (.invokevirtual 52, [25, 1, 0, 173, 175, 5, 174, 176]) := rfl
theorem c24_28 : xCD 24 28 = some (.bipush 48, []) := rfl
theorem c24_30 : xCD 24 30 = some (.isub, []) := rfl
theorem c24_31 : xCD 24 31 = some (.istore 4, []) := rfl
theorem c24_33 : xCD 24 33 = some (.iinc 2 1, []) := rfl
theorem c24_36 : xCD 24 36 = some (.aload_n 0, []) := rfl
theorem c24_37 : xCD 24 37 = some (.iload_n 2, []) := rfl
theorem c24_38 : xCD 24 38 = some (.invokevirtual 52, [25, 1, 0, 173, 175, 5, 174, 176]) := rfl
theorem c24_41 : xCD 24 41 = some (.invokestatic 59, [26, 1, 0, 187, 189, 5, 188]) := rfl
theorem c24_44 : xCD 24 44 = some (.ifCond .eq 22, [66]) := rfl
theorem c24_47 : xCD 24 47 = some (.bipush 10, []) := rfl
theorem c24_49 : xCD 24 49 = some (.iload 4, []) := rfl
theorem c24_51 : xCD 24 51 = some (.imul, []) := rfl
theorem c24_52 : xCD 24 52 = some (.aload_n 0, []) := rfl
theorem c24_53 : xCD 24 53 = some (.iload_n 2, []) := rfl
theorem c24_54 : xCD 24 54 = some (.invokevirtual 52, [25, 1, 0, 173, 175, 5, 174, 176]) := rfl
theorem c24_57 : xCD 24 57 = some (.iadd, []) := rfl
theorem c24_58 : xCD 24 58 = some (.bipush 48, []) := rfl
theorem c24_60 : xCD 24 60 = some (.isub, []) := rfl
theorem c24_61 : xCD 24 61 = some (.istore 4, []) := rfl
theorem c24_63 : xCD 24 63 = some (.iinc 2 1, []) := rfl
theorem c24_66 : xCD 24 66 = some (.aload_n 0, []) := rfl
theorem c24_67 : xCD 24 67 = some (.getfield 33, [1, 4, 74]) := rfl
theorem c24_70 : xCD 24 70 = some (.iload_n 3, []) := rfl
theorem c24_71 : xCD 24 71 = some (.iload 4, []) := rfl
theorem c24_73 : xCD 24 73 = some (.iastore, []) := rfl
theorem c24_74 : xCD 24 74 = some (.aload_n 0, []) := rfl
theorem c24_75 : xCD 24 75 = some (.iload_n 3, []) := rfl
theorem c24_76 : xCD 24 76 = some (.iconst 1, []) := rfl
theorem c24_77 : xCD 24 77 = some (.iadd, []) := rfl
theorem c24_78 : xCD 24 78 = some (.putfield 37, [1, 5, 75]) := rfl
theorem c24_81 : xCD 24 81 = some (.aload_n 0, []) := rfl
theorem c24_82 : xCD 24 82 = some (.iload_n 2, []) := rfl
theorem c24_83 : xCD 24 83 = some (.invokevirtual 52, [25, 1, 0, 173, 175, 5, 174, 176]) := rfl
theorem c24_86 : xCD 24 86 = some (.istore 5, []) := rfl
theorem c24_88 : xCD 24 88 = some (.iinc 2 1, []) := rfl
theorem c24_91 : xCD 24 91 = some (.iload 5, []) := rfl
theorem c24_93 : xCD 24 93 = some (.bipush 59, []) := rfl
theorem c24_95 : xCD 24 95 = some (.if_icmp .ne 5, [100]) := rfl
theorem c24_98 : xCD 24 98 = some (.iload_n 2, []) := rfl
theorem c24_99 : xCD 24 99 = some (.ireturn, []) := rfl
theorem c24_100 : xCD 24 100 = some (.iload 5, []) := rfl
theorem c24_102 : xCD 24 102 = some (.bipush 44, []) := rfl
theorem c24_104 : xCD 24 104 = some (.if_icmp .eq 6, [110]) := rfl
theorem c24_107 : xCD 24 107 = some (.bipush (-4), []) := rfl
theorem c24_109 : xCD 24 109 = some (.ireturn, []) := rfl
theorem c24_110 : xCD 24 110 = some (.iinc 3 1, []) := rfl
theorem c24_113 : xCD 24 113 = some (.goto (-109), [4]) := rfl
theorem c24_116 : xCD 24 116 = some (.bipush (-4), []) := rfl
theorem c24_118 : xCD 24 118 = some (.ireturn, []) := rfl
theorem c25_0 : xCD 25 0 = some (.iload_n 1, []) := rfl
theorem c25_1 : xCD 25 1 = some (.ifCond .lt 27, [28]) := rfl
theorem c25_4 : xCD 25 4 = some (.iload_n 1, []) := rfl
theorem c25_5 : xCD 25 5 = some (.aload_n 0, []) := rfl
theorem c25_6 : xCD 25 6 = some (.getfield 15, [1, 1, 69]) := rfl
theorem c25_9 : xCD 25 9 = some (.if_icmp .ge 19, [28]) := rfl
theorem c25_12 : xCD 25 12 = some (.iload_n 1, []) := rfl
theorem c25_13 : xCD 25 13 = some (.sipush 200, []) := rfl
theorem c25_16 : xCD 25 16 = some (.if_icmp .ge 12, [28]) := rfl
theorem c25_19 : xCD 25 19 = some (.aload_n 0, []) := rfl
theorem c25_20 : xCD 25 20 = some (.getfield 9, [1, 0, 68]) := rfl
theorem c25_23 : xCD 25 23 = some (.iload_n 1, []) := rfl
theorem c25_24 : xCD 25 24 = some (.caload, []) := rfl
theorem c25_25 : xCD 25 25 = some (.goto 4, [29]) := rfl
theorem c25_28 : xCD 25 28 = some (.iconst 0, []) := rfl
theorem c25_29 : xCD 25 29 = some (.ireturn, []) := rfl
theorem c26_0 : xCD 26 0 = some (.iload_n 0, []) := rfl
theorem c26_1 : xCD 26 1 = some (.bipush 48, []) := rfl
theorem c26_3 : xCD 26 3 = some (.if_icmp .lt 13, [16]) := rfl
theorem c26_6 : xCD 26 6 = some (.iload_n 0, []) := rfl
theorem c26_7 : xCD 26 7 = some (.bipush 57, []) := rfl
theorem c26_9 : xCD 26 9 = some (.if_icmp .gt 7, [16]) := rfl
theorem c26_12 : xCD 26 12 = some (.iconst 1, []) := rfl
theorem c26_13 : xCD 26 13 = some (.goto 4, [17]) := rfl
theorem c26_16 : xCD 26 16 = some (.iconst 0, []) := rfl
theorem c26_17 : xCD 26 17 = some (.ireturn, []) := rfl
theorem c27_0 : xCD 27 0 = some (.iload_n 1, []) := rfl
theorem c27_1 : xCD 27 1 = some (.bipush 118, []) := rfl
theorem c27_3 : xCD 27 3 = some (.if_icmp .ne 8, [11]) := rfl
theorem c27_6 : xCD 27 6 = some (.aload_n 0, []) := rfl
theorem c27_7 : xCD 27 7 = some (.invokevirtual 62, [28, 0, 0, 190, 192, 5, 191, 193]) := rfl
theorem c27_10 : xCD 27 10 = some (.ireturn, []) := rfl
theorem c27_11 : xCD 27 11 = some (.aload_n 0, []) := rfl
theorem c27_12 : xCD 27 12 = some (.iconst 1, []) := rfl
theorem c27_13 : xCD 27 13 = some (.putfield 40, [1, 6, 76]) := rfl
theorem c27_16 : xCD 27 16 = some (.iload_n 1, []) := rfl
theorem c27_17 : xCD 27 17 = some (.tableswitch 221 101 119 #[108, 221, 103, 221, 97, 221, 221, 183, 221, 221, 221, 91, 221, 221, 221, 221, 221, 221, 146], [238, 125, 238, 120, 238, 114, 238, 238, 200, 238, 238, 238, 108, 238, 238, 238, 238, 238, 238, 163]) := rfl
theorem c27_108 : xCD 27 108 = some (.aload_n 0, []) := rfl
theorem c27_109 : xCD 27 109 = some (.iconst 1, []) := rfl
theorem c27_110 : xCD 27 110 = some (.invokevirtual 66, [29, 1, 0, 194, 196, 5, 195, 197]) := rfl
theorem c27_113 : xCD 27 113 = some (.ireturn, []) := rfl
theorem c27_114 : xCD 27 114 = some (.aload_n 0, []) := rfl
theorem c27_115 : xCD 27 115 = some (.iconst 0, []) := rfl
theorem c27_116 : xCD 27 116 = some (.invokevirtual 66, [29, 1, 0, 194, 196, 5, 195, 197]) := rfl
theorem c27_119 : xCD 27 119 = some (.ireturn, []) := rfl
theorem c27_120 : xCD 27 120 = some (.aload_n 0, []) := rfl
theorem c27_121 : xCD 27 121 = some (.invokevirtual 70, [32, 0, 0, 198, 200, 5, 199, 201]) := rfl
theorem c27_124 : xCD 27 124 = some (.ireturn, []) := rfl
theorem c27_125 : xCD 27 125 = some (.aload_n 0, []) := rfl
theorem c27_126 : xCD 27 126 = some (.getfield 29, [1, 3, 73]) := rfl
theorem c27_129 : xCD 27 129 = some (.aload_n 0, []) := rfl
theorem c27_130 : xCD 27 130 = some (.getfield 33, [1, 4, 74]) := rfl
theorem c27_133 : xCD 27 133 = some (.iconst 0, []) := rfl
theorem c27_134 : xCD 27 134 = some (.iaload, []) := rfl
theorem c27_135 : xCD 27 135 = some (.putfield 73, [3, 4, 202]) := rfl
theorem c27_138 : xCD 27 138 = some (.aload_n 0, []) := rfl
theorem c27_139 : xCD 27 139 = some (.getfield 37, [1, 5, 75]) := rfl
theorem c27_142 : xCD 27 142 = some (.iconst 1, []) := rfl
theorem c27_143 : xCD 27 143 = some (.if_icmp .ne 18, [161]) := rfl
theorem c27_146 : xCD 27 146 = some (.aload_n 0, []) := rfl
theorem c27_147 : xCD 27 147 = some (.getfield 33, [1, 4, 74]) := rfl
theorem c27_150 : xCD 27 150 = some (.iconst 0, []) := rfl
theorem c27_151 : xCD 27 151 = some (.iaload, []) := rfl
theorem c27_152 : xCD 27 152 = some (.bipush 99, []) := rfl
theorem c27_154 : xCD 27 154 = some (.if_icmp .gt 7, [161]) := rfl
theorem c27_157 : xCD 27 157 = some (.iconst 1, []) := rfl
theorem c27_158 : xCD 27 158 = some (.goto 4, [162]) := rfl
theorem c27_161 : xCD 27 161 = some (.iconst 0, []) := rfl
theorem c27_162 : xCD 27 162 = some (.ireturn, []) := rfl
theorem c27_163 : xCD 27 163 = some (.aload_n 0, []) := rfl
theorem c27_164 : xCD 27 164 = some (.getfield 29, [1, 3, 73]) := rfl
theorem c27_167 : xCD 27 167 = some (.aload_n 0, []) := rfl
theorem c27_168 : xCD 27 168 = some (.getfield 33, [1, 4, 74]) := rfl
theorem c27_171 : xCD 27 171 = some (.iconst 0, []) := rfl
theorem c27_172 : xCD 27 172 = some (.iaload, []) := rfl
theorem c27_173 : xCD 27 173 = some (.putfield 76, [3, 3, 203]) := rfl
theorem c27_176 : xCD 27 176 = some (.aload_n 0, []) := rfl
theorem c27_177 : xCD 27 177 = some (.getfield 37, [1, 5, 75]) := rfl
theorem c27_180 : xCD 27 180 = some (.iconst 1, []) := rfl
theorem c27_181 : xCD 27 181 = some (.if_icmp .ne 17, [198]) := rfl
theorem c27_184 : xCD 27 184 = some (.aload_n 0, []) := rfl
theorem c27_185 : xCD 27 185 = some (.getfield 33, [1, 4, 74]) := rfl
theorem c27_188 : xCD 27 188 = some (.iconst 0, []) := rfl
theorem c27_189 : xCD 27 189 = some (.iaload, []) := rfl
theorem c27_190 : xCD 27 190 = some (.iconst 4, []) := rfl
theorem c27_191 : xCD 27 191 = some (.if_icmp .ge 7, [198]) := rfl
theorem c27_194 : xCD 27 194 = some (.iconst 1, []) := rfl
theorem c27_195 : xCD 27 195 = some (.goto 4, [199]) := rfl
theorem c27_198 : xCD 27 198 = some (.iconst 0, []) := rfl
theorem c27_199 : xCD 27 199 = some (.ireturn, []) := rfl
theorem c27_200 : xCD 27 200 = some (.aload_n 0, []) := rfl
theorem c27_201 : xCD 27 201 = some (.getfield 22, [1, 2, 71]) := rfl
theorem c27_204 : xCD 27 204 = some (.aload_n 0, []) := rfl
theorem c27_205 : xCD 27 205 = some (.getfield 33, [1, 4, 74]) := rfl
theorem c27_208 : xCD 27 208 = some (.iconst 0, []) := rfl
theorem c27_209 : xCD 27 209 = some (.iaload, []) := rfl
theorem c27_210 : xCD 27 210 = some (.putfield 79, [2, 2, 204]) := rfl
theorem c27_213 : xCD 27 213 = some (.aload_n 0, []) := rfl
theorem c27_214 : xCD 27 214 = some (.getfield 37, [1, 5, 75]) := rfl
theorem c27_217 : xCD 27 217 = some (.iconst 1, []) := rfl
theorem c27_218 : xCD 27 218 = some (.if_icmp .ne 18, [236]) := rfl
theorem c27_221 : xCD 27 221 = some (.aload_n 0, []) := rfl
theorem c27_222 : xCD 27 222 = some (.getfield 33, [1, 4, 74]) := rfl
theorem c27_225 : xCD 27 225 = some (.iconst 0, []) := rfl
theorem c27_226 : xCD 27 226 = some (.iaload, []) := rfl
theorem c27_227 : xCD 27 227 = some (.bipush 99, []) := rfl
theorem c27_229 : xCD 27 229 = some (.if_icmp .gt 7, [236]) := rfl
theorem c27_232 : xCD 27 232 = some (.iconst 1, []) := rfl
theorem c27_233 : xCD 27 233 = some (.goto 4, [237]) := rfl
theorem c27_236 : xCD 27 236 = some (.iconst 0, []) := rfl
theorem c27_237 : xCD 27 237 = some (.ireturn, []) := rfl
theorem c27_238 : xCD 27 238 = some (.iconst 0, []) := rfl
theorem c27_239 : xCD 27 239 = some (.ireturn, []) := rfl
theorem c28_0 : xCD 28 0 = some (.aload_n 0, []) := rfl
theorem c28_1 : xCD 28 1 = some (.getfield 40, [1, 6, 76]) := rfl
theorem c28_4 : xCD 28 4 = some (.ifCond .ne 11, [15]) := rfl
theorem c28_7 : xCD 28 7 = some (.aload_n 0, []) := rfl
theorem c28_8 : xCD 28 8 = some (.getfield 37, [1, 5, 75]) := rfl
theorem c28_11 : xCD 28 11 = some (.iconst 2, []) := rfl
theorem c28_12 : xCD 28 12 = some (.if_icmp .eq 5, [17]) := rfl
theorem c28_15 : xCD 28 15 = some (.iconst 0, []) := rfl
theorem c28_16 : xCD 28 16 = some (.ireturn, []) := rfl
theorem c28_17 : xCD 28 17 = some (.aload_n 0, []) := rfl
theorem c28_18 : xCD 28 18 = some (.getfield 33, [1, 4, 74]) := rfl
theorem c28_21 : xCD 28 21 = some (.iconst 0, []) := rfl
theorem c28_22 : xCD 28 22 = some (.iaload, []) := rfl
theorem c28_23 : xCD 28 23 = some (.istore_n 1, []) := rfl
theorem c28_24 : xCD 28 24 = some (.aload_n 0, []) := rfl
theorem c28_25 : xCD 28 25 = some (.getfield 33, [1, 4, 74]) := rfl
theorem c28_28 : xCD 28 28 = some (.iconst 1, []) := rfl
theorem c28_29 : xCD 28 29 = some (.iaload, []) := rfl
theorem c28_30 : xCD 28 30 = some (.istore_n 2, []) := rfl
theorem c28_31 : xCD 28 31 = some (.iload_n 1, []) := rfl
theorem c28_32 : xCD 28 32 = some (.iconst 2, []) := rfl
theorem c28_33 : xCD 28 33 = some (.if_icmp .lt 9, [42]) := rfl
theorem c28_36 : xCD 28 36 = some (.iload_n 1, []) := rfl
theorem c28_37 : xCD 28 37 = some (.bipush 6, []) := rfl
theorem c28_39 : xCD 28 39 = some (.if_icmp .le 5, [44]) := rfl
theorem c28_42 : xCD 28 42 = some (.iconst 0, []) := rfl
theorem c28_43 : xCD 28 43 = some (.ireturn, []) := rfl
theorem c28_44 : xCD 28 44 = some (.iload_n 2, []) := rfl
theorem c28_45 : xCD 28 45 = some (.iconst 2, []) := rfl
theorem c28_46 : xCD 28 46 = some (.if_icmp .lt 9, [55]) := rfl
theorem c28_49 : xCD 28 49 = some (.iload_n 2, []) := rfl
theorem c28_50 : xCD 28 50 = some (.bipush 6, []) := rfl
theorem c28_52 : xCD 28 52 = some (.if_icmp .le 5, [57]) := rfl
theorem c28_55 : xCD 28 55 = some (.iconst 0, []) := rfl
theorem c28_56 : xCD 28 56 = some (.ireturn, []) := rfl
theorem c28_57 : xCD 28 57 = some (.aload_n 0, []) := rfl
theorem c28_58 : xCD 28 58 = some (.getfield 22, [1, 2, 71]) := rfl
theorem c28_61 : xCD 28 61 = some (.iload_n 1, []) := rfl
theorem c28_62 : xCD 28 62 = some (.putfield 82, [2, 0, 205]) := rfl
theorem c28_65 : xCD 28 65 = some (.aload_n 0, []) := rfl
theorem c28_66 : xCD 28 66 = some (.getfield 22, [1, 2, 71]) := rfl
theorem c28_69 : xCD 28 69 = some (.iload_n 2, []) := rfl
theorem c28_70 : xCD 28 70 = some (.putfield 85, [2, 1, 206]) := rfl
theorem c28_73 : xCD 28 73 = some (.iconst 1, []) := rfl
theorem c28_74 : xCD 28 74 = some (.ireturn, []) := rfl
theorem c29_0 : xCD 29 0 = some (.aload_n 0, []) := rfl
theorem c29_1 : xCD 29 1 = some (.getfield 33, [1, 4, 74]) := rfl
theorem c29_4 : xCD 29 4 = some (.iconst 0, []) := rfl
theorem c29_5 : xCD 29 5 = some (.iaload, []) := rfl
theorem c29_6 : xCD 29 6 = some (.istore_n 2, []) := rfl
theorem c29_7 : xCD 29 7 = some (.aload_n 0, []) := rfl
theorem c29_8 : xCD 29 8 = some (.getfield 33, [1, 4, 74]) := rfl
theorem c29_11 : xCD 29 11 = some (.iconst 1, []) := rfl
theorem c29_12 : xCD 29 12 = some (.iaload, []) := rfl
theorem c29_13 : xCD 29 13 = some (.istore_n 3, []) := rfl
theorem c29_14 : xCD 29 14 = some (.aload_n 0, []) := rfl
theorem c29_15 : xCD 29 15 = some (.getfield 37, [1, 5, 75]) := rfl
theorem c29_18 : xCD 29 18 = some (.iconst 2, []) := rfl
theorem c29_19 : xCD 29 19 = some (.if_icmp .ne 20, [39]) := rfl
theorem c29_22 : xCD 29 22 = some (.aload_n 0, []) := rfl
theorem c29_23 : xCD 29 23 = some (.getfield 22, [1, 2, 71]) := rfl
theorem c29_26 : xCD 29 26 = some (.iload_n 2, []) := rfl
theorem c29_27 : xCD 29 27 = some (.invokevirtual 88, [30, 1, 0, 207, 143, 11, 142, 144]) := rfl
theorem c29_30 : xCD 29 30 = some (.ifCond .eq 9, [39]) := rfl
theorem c29_33 : xCD 29 33 = some (.iload_n 3, []) := rfl
theorem c29_34 : xCD 29 34 = some (.bipush 8, []) := rfl
theorem c29_36 : xCD 29 36 = some (.if_icmp .lt 5, [41]) := rfl
theorem c29_39 : xCD 29 39 = some (.iconst 0, []) := rfl
theorem c29_40 : xCD 29 40 = some (.ireturn, []) := rfl
theorem c29_41 : xCD 29 41 = some (.iload_n 1, []) := rfl
theorem c29_42 : xCD 29 42 = some (.ifCond .eq 13, [55]) := rfl
theorem c29_45 : xCD 29 45 = some (.aload_n 0, []) := rfl
theorem c29_46 : xCD 29 46 = some (.getfield 22, [1, 2, 71]) := rfl
theorem c29_49 : xCD 29 49 = some (.getfield 91, [2, 3, 208]) := rfl
theorem c29_52 : xCD 29 52 = some (.iload_n 2, []) := rfl
theorem c29_53 : xCD 29 53 = some (.iload_n 3, []) := rfl
theorem c29_54 : xCD 29 54 = some (.iastore, []) := rfl
theorem c29_55 : xCD 29 55 = some (.aload_n 0, []) := rfl
theorem c29_56 : xCD 29 56 = some (.getfield 29, [1, 3, 73]) := rfl
theorem c29_59 : xCD 29 59 = some (.iload_n 2, []) := rfl
theorem c29_60 : xCD 29 60 = some (.iload_n 3, []) := rfl
theorem c29_61 : xCD 29 61 = some (.iconst 0, []) := rfl
theorem c29_62 : xCD 29 62 = some (.invokevirtual 94, [31, 3, 0, 209, 211, 17, 210, 212]) := rfl
theorem c29_65 : xCD 29 65 = some (.iconst 1, []) := rfl
theorem c29_66 : xCD 29 66 = some (.ireturn, []) := rfl
theorem c30_0 : xCD 30 0 = some (.iload_n 1, []) := rfl
theorem c30_1 : xCD 30 1 = some (.ifCond .lt 26, [27]) := rfl
theorem c30_4 : xCD 30 4 = some (.iload_n 1, []) := rfl
theorem c30_5 : xCD 30 5 = some (.aload_n 0, []) := rfl
theorem c30_6 : xCD 30 6 = some (.getfield 18, [2, 0, 181]) := rfl
theorem c30_9 : xCD 30 9 = some (.aload_n 0, []) := rfl
theorem c30_10 : xCD 30 10 = some (.getfield 22, [2, 1, 182]) := rfl
theorem c30_13 : xCD 30 13 = some (.imul, []) := rfl
theorem c30_14 : xCD 30 14 = some (.if_icmp .ge 13, [27]) := rfl
theorem c30_17 : xCD 30 17 = some (.iload_n 1, []) := rfl
theorem c30_18 : xCD 30 18 = some (.bipush 36, []) := rfl
theorem c30_20 : xCD 30 20 = some (.if_icmp .ge 7, [27]) := rfl
theorem c30_23 : xCD 30 23 = some (.iconst 1, []) := rfl
theorem c30_24 : xCD 30 24 = some (.goto 4, [28]) := rfl
theorem c30_27 : xCD 30 27 = some (.iconst 0, []) := rfl
theorem c30_28 : xCD 30 28 = some (.ireturn, []) := rfl
theorem c31_0 : xCD 31 0 = some (.iload_n 1, []) := rfl
theorem c31_1 : xCD 31 1 = some (.ifCond .lt 9, [10]) := rfl
theorem c31_4 : xCD 31 4 = some (.iload_n 1, []) := rfl
theorem c31_5 : xCD 31 5 = some (.bipush 36, []) := rfl
theorem c31_7 : xCD 31 7 = some (.if_icmp .lt 4, [11]) := rfl
theorem c31_10 : xCD 31 10 = some (.return_, []) := rfl
theorem c31_11 : xCD 31 11 = some (.aload_n 0, []) := rfl
theorem c31_12 : xCD 31 12 = some (.getfield 9, [3, 0, 81]) := rfl
theorem c31_15 : xCD 31 15 = some (.iload_n 1, []) := rfl
theorem c31_16 : xCD 31 16 = some (.iload_n 2, []) := rfl
theorem c31_17 : xCD 31 17 = some (.iastore, []) := rfl
theorem c31_18 : xCD 31 18 = some (.aload_n 0, []) := rfl
theorem c31_19 : xCD 31 19 = some (.getfield 15, [3, 1, 82]) := rfl
theorem c31_22 : xCD 31 22 = some (.iload_n 1, []) := rfl
theorem c31_23 : xCD 31 23 = some (.iload_n 3, []) := rfl
theorem c31_24 : xCD 31 24 = some (.iastore, []) := rfl
theorem c31_25 : xCD 31 25 = some (.return_, []) := rfl
theorem c32_0 : xCD 32 0 = some (.aload_n 0, []) := rfl
theorem c32_1 : xCD 32 1 = some (.getfield 37, [1, 5, 75]) := rfl
theorem c32_4 : xCD 32 4 = some (.iconst 4, []) := rfl
theorem c32_5 : xCD 32 5 = some (.if_icmp .eq 5, [10]) := rfl
theorem c32_8 : xCD 32 8 = some (.iconst 0, []) := rfl
theorem c32_9 : xCD 32 9 = some (.ireturn, []) := rfl
theorem c32_10 : xCD 32 10 = some (.iconst 0, []) := rfl
theorem c32_11 : xCD 32 11 = some (.istore_n 1, []) := rfl
theorem c32_12 : xCD 32 12 = some (.iconst 0, []) := rfl
theorem c32_13 : xCD 32 13 = some (.istore_n 2, []) := rfl
theorem c32_14 : xCD 32 14 = some (.iload_n 2, []) := rfl
theorem c32_15 : xCD 32 15 = some (.iconst 4, []) := rfl
theorem c32_16 : xCD 32 16 = some (.if_icmp .ge 23, [39]) := rfl
theorem c32_19 : xCD 32 19 = some (.iload_n 2, []) := rfl
theorem c32_20 : xCD 32 20 = some (.iconst 4, []) := rfl
theorem c32_21 : xCD 32 21 = some (.if_icmp .ge 18, [39]) := rfl
theorem c32_24 : xCD 32 24 = some (.iload_n 1, []) := rfl
theorem c32_25 : xCD 32 25 = some (.aload_n 0, []) := rfl
theorem c32_26 : xCD 32 26 = some (.getfield 33, [1, 4, 74]) := rfl
theorem c32_29 : xCD 32 29 = some (.iload_n 2, []) := rfl
theorem c32_30 : xCD 32 30 = some (.iaload, []) := rfl
theorem c32_31 : xCD 32 31 = some (.iadd, []) := rfl
theorem c32_32 : xCD 32 32 = some (.istore_n 1, []) := rfl
theorem c32_33 : xCD 32 33 = some (.iinc 2 1, []) := rfl
theorem c32_36 : xCD 32 36 = some (.goto (-22), [14]) := rfl
theorem c32_39 : xCD 32 39 = some (.iload_n 1, []) := rfl
theorem c32_40 : xCD 32 40 = some (.bipush 10, []) := rfl
theorem c32_42 : xCD 32 42 = some (.if_icmp .eq 5, [47]) := rfl
theorem c32_45 : xCD 32 45 = some (.iconst 0, []) := rfl
theorem c32_46 : xCD 32 46 = some (.ireturn, []) := rfl
theorem c32_47 : xCD 32 47 = some (.iconst 0, []) := rfl
theorem c32_48 : xCD 32 48 = some (.istore_n 2, []) := rfl
theorem c32_49 : xCD 32 49 = some (.iload_n 2, []) := rfl
theorem c32_50 : xCD 32 50 = some (.iconst 4, []) := rfl
theorem c32_51 : xCD 32 51 = some (.if_icmp .ge 29, [80]) := rfl
theorem c32_54 : xCD 32 54 = some (.iload_n 2, []) := rfl
theorem c32_55 : xCD 32 55 = some (.iconst 4, []) := rfl
theorem c32_56 : xCD 32 56 = some (.if_icmp .ge 24, [80]) := rfl
theorem c32_59 : xCD 32 59 = some (.aload_n 0, []) := rfl
theorem c32_60 : xCD 32 60 = some (.getfield 22, [1, 2, 71]) := rfl
theorem c32_63 : xCD 32 63 = some (.getfield 98, [2, 4, 213]) := rfl
theorem c32_66 : xCD 32 66 = some (.iload_n 2, []) := rfl
theorem c32_67 : xCD 32 67 = some (.aload_n 0, []) := rfl
theorem c32_68 : xCD 32 68 = some (.getfield 33, [1, 4, 74]) := rfl
theorem c32_71 : xCD 32 71 = some (.iload_n 2, []) := rfl
theorem c32_72 : xCD 32 72 = some (.iaload, []) := rfl
theorem c32_73 : xCD 32 73 = some (.iastore, []) := rfl
theorem c32_74 : xCD 32 74 = some (.iinc 2 1, []) := rfl
theorem c32_77 : xCD 32 77 = some (.goto (-28), [49]) := rfl
theorem c32_80 : xCD 32 80 = some (.iconst 1, []) := rfl
theorem c32_81 : xCD 32 81 = some (.ireturn, []) := rfl
theorem c33_0 : xCD 33 0 = some (.aload_n 0, []) := rfl
theorem c33_1 : xCD 33 1 = some (.aload_n 1, []) := rfl
theorem c33_2 : xCD 33 2 = some (.getfield 18, [2, 0, 181]) := rfl
theorem c33_5 : xCD 33 5 = some (.putfield 18, [2, 0, 181]) := rfl
theorem c33_8 : xCD 33 8 = some (.aload_n 0, []) := rfl
theorem c33_9 : xCD 33 9 = some (.aload_n 1, []) := rfl
theorem c33_10 : xCD 33 10 = some (.getfield 22, [2, 1, 182]) := rfl
theorem c33_13 : xCD 33 13 = some (.putfield 22, [2, 1, 182]) := rfl
theorem c33_16 : xCD 33 16 = some (.aload_n 0, []) := rfl
theorem c33_17 : xCD 33 17 = some (.aload_n 1, []) := rfl
theorem c33_18 : xCD 33 18 = some (.getfield 25, [2, 2, 183]) := rfl
theorem c33_21 : xCD 33 21 = some (.putfield 25, [2, 2, 183]) := rfl
theorem c33_24 : xCD 33 24 = some (.iconst 0, []) := rfl
theorem c33_25 : xCD 33 25 = some (.istore_n 2, []) := rfl
theorem c33_26 : xCD 33 26 = some (.iload_n 2, []) := rfl
theorem c33_27 : xCD 33 27 = some (.bipush 36, []) := rfl
theorem c33_29 : xCD 33 29 = some (.if_icmp .ge 21, [50]) := rfl
theorem c33_32 : xCD 33 32 = some (.aload_n 0, []) := rfl
theorem c33_33 : xCD 33 33 = some (.getfield 9, [2, 3, 78]) := rfl
theorem c33_36 : xCD 33 36 = some (.iload_n 2, []) := rfl
theorem c33_37 : xCD 33 37 = some (.aload_n 1, []) := rfl
theorem c33_38 : xCD 33 38 = some (.getfield 9, [2, 3, 78]) := rfl
theorem c33_41 : xCD 33 41 = some (.iload_n 2, []) := rfl
theorem c33_42 : xCD 33 42 = some (.iaload, []) := rfl
theorem c33_43 : xCD 33 43 = some (.iastore, []) := rfl
theorem c33_44 : xCD 33 44 = some (.iinc 2 1, []) := rfl
theorem c33_47 : xCD 33 47 = some (.goto (-21), [26]) := rfl
theorem c33_50 : xCD 33 50 = some (.iconst 0, []) := rfl
theorem c33_51 : xCD 33 51 = some (.istore_n 2, []) := rfl
theorem c33_52 : xCD 33 52 = some (.iload_n 2, []) := rfl
theorem c33_53 : xCD 33 53 = some (.iconst 4, []) := rfl
theorem c33_54 : xCD 33 54 = some (.if_icmp .ge 21, [75]) := rfl
theorem c33_57 : xCD 33 57 = some (.aload_n 0, []) := rfl
theorem c33_58 : xCD 33 58 = some (.getfield 15, [2, 4, 79]) := rfl
theorem c33_61 : xCD 33 61 = some (.iload_n 2, []) := rfl
theorem c33_62 : xCD 33 62 = some (.aload_n 1, []) := rfl
theorem c33_63 : xCD 33 63 = some (.getfield 15, [2, 4, 79]) := rfl
theorem c33_66 : xCD 33 66 = some (.iload_n 2, []) := rfl
theorem c33_67 : xCD 33 67 = some (.iaload, []) := rfl
theorem c33_68 : xCD 33 68 = some (.iastore, []) := rfl
theorem c33_69 : xCD 33 69 = some (.iinc 2 1, []) := rfl
theorem c33_72 : xCD 33 72 = some (.goto (-20), [52]) := rfl
theorem c33_75 : xCD 33 75 = some (.return_, []) := rfl
theorem c34_0 : xCD 34 0 = some (.iconst 0, []) := rfl
theorem c34_1 : xCD 34 1 = some (.istore_n 2, []) := rfl
theorem c34_2 : xCD 34 2 = some (.iload_n 2, []) := rfl
theorem c34_3 : xCD 34 3 = some (.bipush 36, []) := rfl
theorem c34_5 : xCD 34 5 = some (.if_icmp .ge 45, [50]) := rfl
theorem c34_8 : xCD 34 8 = some (.aload_n 0, []) := rfl
theorem c34_9 : xCD 34 9 = some (.getfield 9, [3, 0, 81]) := rfl
theorem c34_12 : xCD 34 12 = some (.iload_n 2, []) := rfl
theorem c34_13 : xCD 34 13 = some (.aload_n 1, []) := rfl
theorem c34_14 : xCD 34 14 = some (.getfield 9, [3, 0, 81]) := rfl
theorem c34_17 : xCD 34 17 = some (.iload_n 2, []) := rfl
theorem c34_18 : xCD 34 18 = some (.iaload, []) := rfl
theorem c34_19 : xCD 34 19 = some (.iastore, []) := rfl
theorem c34_20 : xCD 34 20 = some (.aload_n 0, []) := rfl
theorem c34_21 : xCD 34 21 = some (.getfield 15, [3, 1, 82]) := rfl
theorem c34_24 : xCD 34 24 = some (.iload_n 2, []) := rfl
theorem c34_25 : xCD 34 25 = some (.aload_n 1, []) := rfl
theorem c34_26 : xCD 34 26 = some (.getfield 15, [3, 1, 82]) := rfl
theorem c34_29 : xCD 34 29 = some (.iload_n 2, []) := rfl
theorem c34_30 : xCD 34 30 = some (.iaload, []) := rfl
theorem c34_31 : xCD 34 31 = some (.iastore, []) := rfl
theorem c34_32 : xCD 34 32 = some (.aload_n 0, []) := rfl
theorem c34_33 : xCD 34 33 = some (.getfield 18, [3, 2, 84]) := rfl
theorem c34_36 : xCD 34 36 = some (.iload_n 2, []) := rfl
theorem c34_37 : xCD 34 37 = some (.aload_n 1, []) := rfl
theorem c34_38 : xCD 34 38 = some (.getfield 18, [3, 2, 84]) := rfl
theorem c34_41 : xCD 34 41 = some (.iload_n 2, []) := rfl
theorem c34_42 : xCD 34 42 = some (.baload, []) := rfl
theorem c34_43 : xCD 34 43 = some (.bastore, []) := rfl
theorem c34_44 : xCD 34 44 = some (.iinc 2 1, []) := rfl
theorem c34_47 : xCD 34 47 = some (.goto (-45), [2]) := rfl
theorem c34_50 : xCD 34 50 = some (.aload_n 0, []) := rfl
theorem c34_51 : xCD 34 51 = some (.aload_n 1, []) := rfl
theorem c34_52 : xCD 34 52 = some (.getfield 22, [3, 3, 184]) := rfl
theorem c34_55 : xCD 34 55 = some (.putfield 22, [3, 3, 184]) := rfl
theorem c34_58 : xCD 34 58 = some (.aload_n 0, []) := rfl
theorem c34_59 : xCD 34 59 = some (.aload_n 1, []) := rfl
theorem c34_60 : xCD 34 60 = some (.getfield 26, [3, 4, 185]) := rfl
theorem c34_63 : xCD 34 63 = some (.putfield 26, [3, 4, 185]) := rfl
theorem c34_66 : xCD 34 66 = some (.aload_n 0, []) := rfl
theorem c34_67 : xCD 34 67 = some (.aload_n 1, []) := rfl
theorem c34_68 : xCD 34 68 = some (.getfield 29, [3, 5, 186]) := rfl
theorem c34_71 : xCD 34 71 = some (.putfield 29, [3, 5, 186]) := rfl
theorem c34_74 : xCD 34 74 = some (.return_, []) := rfl
theorem c35_0 : xCD 35 0 = some (.aload_n 0, []) := rfl
theorem c35_1 : xCD 35 1 = some (.iconst 0, []) := rfl
theorem c35_2 : xCD 35 2 = some (.putfield 17, [4, 1, 88]) := rfl
theorem c35_5 : xCD 35 5 = some (.aload_n 0, []) := rfl
theorem c35_6 : xCD 35 6 = some (.iconst 0, []) := rfl
theorem c35_7 : xCD 35 7 = some (.putfield 21, [4, 2, 89]) := rfl
theorem c35_10 : xCD 35 10 = some (.return_, []) := rfl
theorem c36_0 : xCD 36 0 = some (.aload_n 0, []) := rfl
theorem c36_1 : xCD 36 1 = some (.getfield 18, [2, 0, 181]) := rfl
theorem c36_4 : xCD 36 4 = some (.aload_n 0, []) := rfl
theorem c36_5 : xCD 36 5 = some (.getfield 22, [2, 1, 182]) := rfl
theorem c36_8 : xCD 36 8 = some (.imul, []) := rfl
theorem c36_9 : xCD 36 9 = some (.ireturn, []) := rfl
theorem c37_0 : xCD 37 0 = some (.iload_n 1, []) := rfl
theorem c37_1 : xCD 37 1 = some (.bipush 32, []) := rfl
theorem c37_3 : xCD 37 3 = some (.if_icmp .lt 9, [12]) := rfl
theorem c37_6 : xCD 37 6 = some (.iload_n 1, []) := rfl
theorem c37_7 : xCD 37 7 = some (.bipush 126, []) := rfl
theorem c37_9 : xCD 37 9 = some (.if_icmp .le 5, [14]) := rfl
theorem c37_12 : xCD 37 12 = some (.iconst (-1), []) := rfl
theorem c37_13 : xCD 37 13 = some (.ireturn, []) := rfl
theorem c37_14 : xCD 37 14 = some (.aload_n 0, []) := rfl
theorem c37_15 : xCD 37 15 = some (.getfield 10, [0, 0, 8]) := rfl
theorem c37_18 : xCD 37 18 = some (.iload_n 1, []) := rfl
theorem c37_19 : xCD 37 19 = some (.i2c, []) := rfl
theorem c37_20 : xCD 37 20 = some (.invokevirtual 84, [19, 1, 0, 56, 58, 5, 57, 59]) := rfl
theorem c37_23 : xCD 37 23 = some (.ifCond .ne 6, [29]) := rfl
theorem c37_26 : xCD 37 26 = some (.bipush (-3), []) := rfl
theorem c37_28 : xCD 37 28 = some (.ireturn, []) := rfl
theorem c37_29 : xCD 37 29 = some (.aload_n 0, []) := rfl
theorem c37_30 : xCD 37 30 = some (.getfield 10, [0, 0, 8]) := rfl
theorem c37_33 : xCD 37 33 = some (.getfield 91, [1, 1, 65]) := rfl
theorem c37_36 : xCD 37 36 = some (.ireturn, []) := rfl
theorem c38_0 : xCD 38 0 = some (.aload_n 0, []) := rfl
theorem c38_1 : xCD 38 1 = some (.getfield 10, [0, 0, 8]) := rfl
theorem c38_4 : xCD 38 4 = some (.getfield 91, [1, 1, 65]) := rfl
theorem c38_7 : xCD 38 7 = some (.istore_n 1, []) := rfl
theorem c38_8 : xCD 38 8 = some (.aload_n 0, []) := rfl
theorem c38_9 : xCD 38 9 = some (.getfield 10, [0, 0, 8]) := rfl
theorem c38_12 : xCD 38 12 = some (.iconst 0, []) := rfl
theorem c38_13 : xCD 38 13 = some (.putfield 91, [1, 1, 65]) := rfl
theorem c38_16 : xCD 38 16 = some (.iload_n 1, []) := rfl
theorem c38_17 : xCD 38 17 = some (.ireturn, []) := rfl
theorem c39_0 : xCD 39 0 = some (.aload_n 0, []) := rfl
theorem c39_1 : xCD 39 1 = some (.getfield 10, [0, 0, 8]) := rfl
theorem c39_4 : xCD 39 4 = some (.invokevirtual 93, [21, 0, 0, 134, 136, 5, 135, 137]) := rfl
theorem c39_7 : xCD 39 7 = some (.ireturn, []) := rfl
theorem c40_0 : xCD 40 0 = some (.aload_n 0, []) := rfl
theorem c40_1 : xCD 40 1 = some (.invokevirtual 88, [20, 0, 0, 60, 63, 61, 62, 64]) := rfl
theorem c40_4 : xCD 40 4 = some (.ireturn, []) := rfl
theorem c41_0 : xCD 41 0 = some (.aload_n 0, []) := rfl
theorem c41_1 : xCD 41 1 = some (.getfield 19, [0, 1, 14]) := rfl
theorem c41_4 : xCD 41 4 = some (.iload_n 1, []) := rfl
theorem c41_5 : xCD 41 5 = some (.invokevirtual 96, [30, 1, 0, 141, 143, 11, 142, 144]) := rfl
theorem c41_8 : xCD 41 8 = some (.ifCond .eq 12, [20]) := rfl
theorem c41_11 : xCD 41 11 = some (.iload_n 2, []) := rfl
theorem c41_12 : xCD 41 12 = some (.ifCond .lt 8, [20]) := rfl
theorem c41_15 : xCD 41 15 = some (.iload_n 2, []) := rfl
theorem c41_16 : xCD 41 16 = some (.iconst 5, []) := rfl
theorem c41_17 : xCD 41 17 = some (.if_icmp .le 5, [22]) := rfl
theorem c41_20 : xCD 41 20 = some (.iconst (-1), []) := rfl
theorem c41_21 : xCD 41 21 = some (.ireturn, []) := rfl
theorem c41_22 : xCD 41 22 = some (.iload_n 2, []) := rfl
theorem c41_23 : xCD 41 23 = some (.tableswitch 89 0 4 #[33, 43, 53, 66, 79], [112, 56, 66, 76, 89, 102]) := rfl
theorem c41_56 : xCD 41 56 = some (.aload_n 0, []) := rfl
theorem c41_57 : xCD 41 57 = some (.getfield 19, [0, 1, 14]) := rfl
theorem c41_60 : xCD 41 60 = some (.getfield 100, [2, 3, 214]) := rfl
theorem c41_63 : xCD 41 63 = some (.iload_n 1, []) := rfl
theorem c41_64 : xCD 41 64 = some (.iaload, []) := rfl
theorem c41_65 : xCD 41 65 = some (.ireturn, []) := rfl
theorem c41_66 : xCD 41 66 = some (.aload_n 0, []) := rfl
theorem c41_67 : xCD 41 67 = some (.getfield 26, [0, 2, 20]) := rfl
theorem c41_70 : xCD 41 70 = some (.getfield 103, [3, 0, 215]) := rfl
theorem c41_73 : xCD 41 73 = some (.iload_n 1, []) := rfl
theorem c41_74 : xCD 41 74 = some (.iaload, []) := rfl
theorem c41_75 : xCD 41 75 = some (.ireturn, []) := rfl
theorem c41_76 : xCD 41 76 = some (.aload_n 0, []) := rfl
theorem c41_77 : xCD 41 77 = some (.invokevirtual 106, [42, 0, 0, 216, 218, 61, 217, 219]) := rfl
theorem c41_80 : xCD 41 80 = some (.aload_n 0, []) := rfl
theorem c41_81 : xCD 41 81 = some (.getfield 48, [0, 6, 35]) := rfl
theorem c41_84 : xCD 41 84 = some (.iload_n 1, []) := rfl
theorem c41_85 : xCD 41 85 = some (.invokevirtual 109, [43, 1, 0, 220, 222, 31, 221, 223]) := rfl
theorem c41_88 : xCD 41 88 = some (.ireturn, []) := rfl
theorem c41_89 : xCD 41 89 = some (.aload_n 0, []) := rfl
theorem c41_90 : xCD 41 90 = some (.invokevirtual 106, [42, 0, 0, 216, 218, 61, 217, 219]) := rfl
theorem c41_93 : xCD 41 93 = some (.aload_n 0, []) := rfl
theorem c41_94 : xCD 41 94 = some (.getfield 48, [0, 6, 35]) := rfl
theorem c41_97 : xCD 41 97 = some (.iload_n 1, []) := rfl
theorem c41_98 : xCD 41 98 = some (.invokevirtual 113, [45, 1, 0, 224, 226, 31, 225, 227]) := rfl
theorem c41_101 : xCD 41 101 = some (.ireturn, []) := rfl
theorem c41_102 : xCD 41 102 = some (.aload_n 0, []) := rfl
theorem c41_103 : xCD 41 103 = some (.getfield 26, [0, 2, 20]) := rfl
theorem c41_106 : xCD 41 106 = some (.getfield 116, [3, 1, 228]) := rfl
theorem c41_109 : xCD 41 109 = some (.iload_n 1, []) := rfl
theorem c41_110 : xCD 41 110 = some (.iaload, []) := rfl
theorem c41_111 : xCD 41 111 = some (.ireturn, []) := rfl
theorem c41_112 : xCD 41 112 = some (.aload_n 0, []) := rfl
theorem c41_113 : xCD 41 113 = some (.getfield 26, [0, 2, 20]) := rfl
theorem c41_116 : xCD 41 116 = some (.getfield 119, [3, 2, 229]) := rfl
theorem c41_119 : xCD 41 119 = some (.iload_n 1, []) := rfl
theorem c41_120 : xCD 41 120 = some (.baload, []) := rfl
theorem c41_121 : xCD 41 121 = some (.ifCond .eq 7, [128]) := rfl
theorem c41_124 : xCD 41 124 = some (.iconst 1, []) := rfl
theorem c41_125 : xCD 41 125 = some (.goto 4, [129]) := rfl
theorem c41_128 : xCD 41 128 = some (.iconst 0, []) := rfl
theorem c41_129 : xCD 41 129 = some (.ireturn, []) := rfl
theorem c42_0 : xCD 42 0 = some (.aload_n 0, []) := rfl
theorem c42_1 : xCD 42 1 = some (.getfield 40, [0, 5, 28]) := rfl
theorem c42_4 : xCD 42 4 = some (.aload_n 0, []) := rfl
theorem c42_5 : xCD 42 5 = some (.getfield 26, [0, 2, 20]) := rfl
theorem c42_8 : xCD 42 8 = some (.invokevirtual 234, [34, 1, 0, 149, 151, 17, 150, 152]) := rfl
theorem c42_11 : xCD 42 11 = some (.return_, []) := rfl
theorem c43_0 : xCD 43 0 = some (.aload_n 0, []) := rfl
theorem c43_1 : xCD 43 1 = some (.getfield 25, [5, 0, 95]) := rfl
theorem c43_4 : xCD 43 4 = some (.iload_n 1, []) := rfl
theorem c43_5 : xCD 43 5 = some (.invokevirtual 33, [30, 1, 0, 230, 143, 11, 142, 144]) := rfl
theorem c43_8 : xCD 43 8 = some (.ifCond .ne 5, [13]) := rfl
theorem c43_11 : xCD 43 11 = some (.iconst 0, []) := rfl
theorem c43_12 : xCD 43 12 = some (.ireturn, []) := rfl
theorem c43_13 : xCD 43 13 = some (.aload_n 0, []) := rfl
theorem c43_14 : xCD 43 14 = some (.getfield 29, [5, 1, 96]) := rfl
theorem c43_17 : xCD 43 17 = some (.getfield 39, [3, 2, 231]) := rfl
theorem c43_20 : xCD 43 20 = some (.iload_n 1, []) := rfl
theorem c43_21 : xCD 43 21 = some (.baload, []) := rfl
theorem c43_22 : xCD 43 22 = some (.ifCond .eq 13, [35]) := rfl
theorem c43_25 : xCD 43 25 = some (.aload_n 0, []) := rfl
theorem c43_26 : xCD 43 26 = some (.getfield 25, [5, 0, 95]) := rfl
theorem c43_29 : xCD 43 29 = some (.getfield 45, [2, 3, 232]) := rfl
theorem c43_32 : xCD 43 32 = some (.iload_n 1, []) := rfl
theorem c43_33 : xCD 43 33 = some (.iaload, []) := rfl
theorem c43_34 : xCD 43 34 = some (.ireturn, []) := rfl
theorem c43_35 : xCD 43 35 = some (.aload_n 0, []) := rfl
theorem c43_36 : xCD 43 36 = some (.getfield 29, [5, 1, 96]) := rfl
theorem c43_39 : xCD 43 39 = some (.getfield 48, [3, 0, 233]) := rfl
theorem c43_42 : xCD 43 42 = some (.iload_n 1, []) := rfl
theorem c43_43 : xCD 43 43 = some (.iaload, []) := rfl
theorem c43_44 : xCD 43 44 = some (.istore_n 2, []) := rfl
theorem c43_45 : xCD 43 45 = some (.iload_n 2, []) := rfl
theorem c43_46 : xCD 43 46 = some (.ifCond .eq 10, [56]) := rfl
theorem c43_49 : xCD 43 49 = some (.iload_n 2, []) := rfl
theorem c43_50 : xCD 43 50 = some (.iconst 4, []) := rfl
theorem c43_51 : xCD 43 51 = some (.if_icmp .eq 5, [56]) := rfl
theorem c43_54 : xCD 43 54 = some (.iload_n 2, []) := rfl
theorem c43_55 : xCD 43 55 = some (.ireturn, []) := rfl
theorem c43_56 : xCD 43 56 = some (.iload_n 1, []) := rfl
theorem c43_57 : xCD 43 57 = some (.aload_n 0, []) := rfl
theorem c43_58 : xCD 43 58 = some (.getfield 25, [5, 0, 95]) := rfl
theorem c43_61 : xCD 43 61 = some (.getfield 51, [2, 1, 234]) := rfl
theorem c43_64 : xCD 43 64 = some (.iadd, []) := rfl
theorem c43_65 : xCD 43 65 = some (.istore_n 3, []) := rfl
theorem c43_66 : xCD 43 66 = some (.aload_n 0, []) := rfl
theorem c43_67 : xCD 43 67 = some (.getfield 25, [5, 0, 95]) := rfl
theorem c43_70 : xCD 43 70 = some (.iload_n 3, []) := rfl
theorem c43_71 : xCD 43 71 = some (.invokevirtual 33, [30, 1, 0, 230, 143, 11, 142, 144]) := rfl
theorem c43_74 : xCD 43 74 = some (.ifCond .eq 31, [105]) := rfl
theorem c43_77 : xCD 43 77 = some (.aload_n 0, []) := rfl
theorem c43_78 : xCD 43 78 = some (.getfield 29, [5, 1, 96]) := rfl
theorem c43_81 : xCD 43 81 = some (.getfield 48, [3, 0, 233]) := rfl
theorem c43_84 : xCD 43 84 = some (.iload_n 3, []) := rfl
theorem c43_85 : xCD 43 85 = some (.iaload, []) := rfl
theorem c43_86 : xCD 43 86 = some (.iconst 5, []) := rfl
theorem c43_87 : xCD 43 87 = some (.if_icmp .ne 18, [105]) := rfl
theorem c43_90 : xCD 43 90 = some (.aload_n 0, []) := rfl
theorem c43_91 : xCD 43 91 = some (.getfield 29, [5, 1, 96]) := rfl
theorem c43_94 : xCD 43 94 = some (.getfield 54, [3, 1, 235]) := rfl
theorem c43_97 : xCD 43 97 = some (.iload_n 3, []) := rfl
theorem c43_98 : xCD 43 98 = some (.iaload, []) := rfl
theorem c43_99 : xCD 43 99 = some (.iconst 3, []) := rfl
theorem c43_100 : xCD 43 100 = some (.if_icmp .lt 5, [105]) := rfl
theorem c43_103 : xCD 43 103 = some (.iconst 5, []) := rfl
theorem c43_104 : xCD 43 104 = some (.ireturn, []) := rfl
theorem c43_105 : xCD 43 105 = some (.aload_n 0, []) := rfl
theorem c43_106 : xCD 43 106 = some (.getfield 25, [5, 0, 95]) := rfl
theorem c43_109 : xCD 43 109 = some (.iload_n 1, []) := rfl
theorem c43_110 : xCD 43 110 = some (.aload_n 0, []) := rfl
theorem c43_111 : xCD 43 111 = some (.getfield 29, [5, 1, 96]) := rfl
theorem c43_114 : xCD 43 114 = some (.getfield 57, [3, 3, 236]) := rfl
theorem c43_117 : xCD 43 117 = some (.invokevirtual 60, [44, 2, 0, 237, 239, 11, 238, 240]) := rfl
theorem c43_120 : xCD 43 120 = some (.istore 4, []) := rfl
theorem c43_122 : xCD 43 122 = some (.aload_n 0, []) := rfl
theorem c43_123 : xCD 43 123 = some (.getfield 25, [5, 0, 95]) := rfl
theorem c43_126 : xCD 43 126 = some (.iload 4, []) := rfl
theorem c43_128 : xCD 43 128 = some (.invokevirtual 33, [30, 1, 0, 230, 143, 11, 142, 144]) := rfl
theorem c43_131 : xCD 43 131 = some (.ifCond .eq 21, [152]) := rfl
theorem c43_134 : xCD 43 134 = some (.aload_n 0, []) := rfl
theorem c43_135 : xCD 43 135 = some (.getfield 29, [5, 1, 96]) := rfl
theorem c43_138 : xCD 43 138 = some (.getfield 48, [3, 0, 233]) := rfl
theorem c43_141 : xCD 43 141 = some (.iload 4, []) := rfl
theorem c43_143 : xCD 43 143 = some (.iaload, []) := rfl
theorem c43_144 : xCD 43 144 = some (.iconst 4, []) := rfl
theorem c43_145 : xCD 43 145 = some (.if_icmp .ne 7, [152]) := rfl
theorem c43_148 : xCD 43 148 = some (.iconst 4, []) := rfl
theorem c43_149 : xCD 43 149 = some (.goto 4, [153]) := rfl
theorem c43_152 : xCD 43 152 = some (.iconst 0, []) := rfl
theorem c43_153 : xCD 43 153 = some (.ireturn, []) := rfl
theorem c44_0 : xCD 44 0 = some (.aload_n 0, []) := rfl
theorem c44_1 : xCD 44 1 = some (.getfield 22, [2, 1, 182]) := rfl
theorem c44_4 : xCD 44 4 = some (.iconst 1, []) := rfl
theorem c44_5 : xCD 44 5 = some (.if_icmp .ge 5, [10]) := rfl
theorem c44_8 : xCD 44 8 = some (.iload_n 1, []) := rfl
theorem c44_9 : xCD 44 9 = some (.ireturn, []) := rfl
theorem c44_10 : xCD 44 10 = some (.iload_n 2, []) := rfl
theorem c44_11 : xCD 44 11 = some (.tableswitch 74 1 3 #[25, 32, 50], [85, 36, 43, 61]) := rfl
theorem c44_36 : xCD 44 36 = some (.iload_n 1, []) := rfl
theorem c44_37 : xCD 44 37 = some (.aload_n 0, []) := rfl
theorem c44_38 : xCD 44 38 = some (.getfield 22, [2, 1, 182]) := rfl
theorem c44_41 : xCD 44 41 = some (.iadd, []) := rfl
theorem c44_42 : xCD 44 42 = some (.ireturn, []) := rfl
theorem c44_43 : xCD 44 43 = some (.iload_n 1, []) := rfl
theorem c44_44 : xCD 44 44 = some (.aload_n 0, []) := rfl
theorem c44_45 : xCD 44 45 = some (.getfield 22, [2, 1, 182]) := rfl
theorem c44_48 : xCD 44 48 = some (.irem, []) := rfl
theorem c44_49 : xCD 44 49 = some (.ifCond .le 9, [58]) := rfl
theorem c44_52 : xCD 44 52 = some (.iload_n 1, []) := rfl
theorem c44_53 : xCD 44 53 = some (.iconst 1, []) := rfl
theorem c44_54 : xCD 44 54 = some (.isub, []) := rfl
theorem c44_55 : xCD 44 55 = some (.goto 5, [60]) := rfl
theorem c44_58 : xCD 44 58 = some (.bipush (-4), []) := rfl
theorem c44_60 : xCD 44 60 = some (.ireturn, []) := rfl
theorem c44_61 : xCD 44 61 = some (.iload_n 1, []) := rfl
theorem c44_62 : xCD 44 62 = some (.aload_n 0, []) := rfl
theorem c44_63 : xCD 44 63 = some (.getfield 22, [2, 1, 182]) := rfl
theorem c44_66 : xCD 44 66 = some (.irem, []) := rfl
theorem c44_67 : xCD 44 67 = some (.aload_n 0, []) := rfl
theorem c44_68 : xCD 44 68 = some (.getfield 22, [2, 1, 182]) := rfl
theorem c44_71 : xCD 44 71 = some (.iconst 1, []) := rfl
theorem c44_72 : xCD 44 72 = some (.isub, []) := rfl
theorem c44_73 : xCD 44 73 = some (.if_icmp .ge 9, [82]) := rfl
theorem c44_76 : xCD 44 76 = some (.iload_n 1, []) := rfl
theorem c44_77 : xCD 44 77 = some (.iconst 1, []) := rfl
theorem c44_78 : xCD 44 78 = some (.iadd, []) := rfl
theorem c44_79 : xCD 44 79 = some (.goto 5, [84]) := rfl
theorem c44_82 : xCD 44 82 = some (.bipush (-4), []) := rfl
theorem c44_84 : xCD 44 84 = some (.ireturn, []) := rfl
theorem c44_85 : xCD 44 85 = some (.iload_n 1, []) := rfl
theorem c44_86 : xCD 44 86 = some (.ireturn, []) := rfl
theorem c45_0 : xCD 45 0 = some (.aload_n 0, []) := rfl
theorem c45_1 : xCD 45 1 = some (.getfield 25, [5, 0, 95]) := rfl
theorem c45_4 : xCD 45 4 = some (.iload_n 1, []) := rfl
theorem c45_5 : xCD 45 5 = some (.invokevirtual 33, [30, 1, 0, 230, 143, 11, 142, 144]) := rfl
theorem c45_8 : xCD 45 8 = some (.ifCond .ne 5, [13]) := rfl
theorem c45_11 : xCD 45 11 = some (.iconst 0, []) := rfl
theorem c45_12 : xCD 45 12 = some (.ireturn, []) := rfl
theorem c45_13 : xCD 45 13 = some (.aload_n 0, []) := rfl
theorem c45_14 : xCD 45 14 = some (.getfield 25, [5, 0, 95]) := rfl
theorem c45_17 : xCD 45 17 = some (.getfield 45, [2, 3, 232]) := rfl
theorem c45_20 : xCD 45 20 = some (.iload_n 1, []) := rfl
theorem c45_21 : xCD 45 21 = some (.iaload, []) := rfl
theorem c45_22 : xCD 45 22 = some (.istore_n 2, []) := rfl
theorem c45_23 : xCD 45 23 = some (.aload_n 0, []) := rfl
theorem c45_24 : xCD 45 24 = some (.iload_n 1, []) := rfl
theorem c45_25 : xCD 45 25 = some (.invokevirtual 64, [43, 1, 0, 241, 222, 31, 221, 223]) := rfl
theorem c45_28 : xCD 45 28 = some (.istore_n 3, []) := rfl
theorem c45_29 : xCD 45 29 = some (.iload_n 3, []) := rfl
theorem c45_30 : xCD 45 30 = some (.iload_n 2, []) := rfl
theorem c45_31 : xCD 45 31 = some (.if_icmp .ne 5, [36]) := rfl
theorem c45_34 : xCD 45 34 = some (.iconst 0, []) := rfl
theorem c45_35 : xCD 45 35 = some (.ireturn, []) := rfl
theorem c45_36 : xCD 45 36 = some (.iload_n 3, []) := rfl
theorem c45_37 : xCD 45 37 = some (.invokestatic 68, [46, 1, 1, 6, 243, 61, 242]) := rfl
theorem c45_40 : xCD 45 40 = some (.iload_n 2, []) := rfl
theorem c45_41 : xCD 45 41 = some (.invokestatic 68, [46, 1, 1, 6, 243, 61, 242]) := rfl
theorem c45_44 : xCD 45 44 = some (.invokestatic 71, [0, 244, 245, 246, 247]) := rfl
theorem c45_47 : xCD 45 47 = some (.istore 4, []) := rfl
theorem c45_49 : xCD 45 49 = some (.iload 4, []) := rfl
theorem c45_51 : xCD 45 51 = some (.iconst 1, []) := rfl
theorem c45_52 : xCD 45 52 = some (.iconst 5, []) := rfl
theorem c45_53 : xCD 45 53 = some (.aload_n 0, []) := rfl
theorem c45_54 : xCD 45 54 = some (.getfield 25, [5, 0, 95]) := rfl
theorem c45_57 : xCD 45 57 = some (.iload_n 1, []) := rfl
theorem c45_58 : xCD 45 58 = some (.aload_n 0, []) := rfl
theorem c45_59 : xCD 45 59 = some (.getfield 29, [5, 1, 96]) := rfl
theorem c45_62 : xCD 45 62 = some (.getfield 76, [3, 4, 248]) := rfl
theorem c45_65 : xCD 45 65 = some (.invokevirtual 79, [48, 2, 0, 249, 251, 11, 250, 252]) := rfl
theorem c45_68 : xCD 45 68 = some (.isub, []) := rfl
theorem c45_69 : xCD 45 69 = some (.invokestatic 71, [0, 244, 245, 246, 247]) := rfl
theorem c45_72 : xCD 45 72 = some (.imul, []) := rfl
theorem c45_73 : xCD 45 73 = some (.ireturn, []) := rfl
theorem c46_0 : xCD 46 0 = some (.iload_n 0, []) := rfl
theorem c46_1 : xCD 46 1 = some (.ifCond .lt 19, [20]) := rfl
theorem c46_4 : xCD 46 4 = some (.iload_n 0, []) := rfl
theorem c46_5 : xCD 46 5 = some (.getstatic 244, [0, 253]) := rfl
theorem c46_8 : xCD 46 8 = some (.arraylength, []) := rfl
theorem c46_9 : xCD 46 9 = some (.if_icmp .ge 11, [20]) := rfl
theorem c46_12 : xCD 46 12 = some (.getstatic 244, [0, 253]) := rfl
theorem c46_15 : xCD 46 15 = some (.iload_n 0, []) := rfl
theorem c46_16 : xCD 46 16 = some (.iaload, []) := rfl
theorem c46_17 : xCD 46 17 = some (.goto 4, [21]) := rfl
theorem c46_20 : xCD 46 20 = some (.iconst 0, []) := rfl
theorem c46_21 : xCD 46 21 = some (.ireturn, []) := rfl
theorem c48_0 : xCD 48 0 = some (.aload_n 0, []) := rfl
theorem c48_1 : xCD 48 1 = some (.getfield 22, [2, 1, 182]) := rfl
theorem c48_4 : xCD 48 4 = some (.iconst 1, []) := rfl
theorem c48_5 : xCD 48 5 = some (.if_icmp .ge 5, [10]) := rfl
theorem c48_8 : xCD 48 8 = some (.iconst 0, []) := rfl
theorem c48_9 : xCD 48 9 = some (.ireturn, []) := rfl
theorem c48_10 : xCD 48 10 = some (.iload_n 1, []) := rfl
theorem c48_11 : xCD 48 11 = some (.aload_n 0, []) := rfl
theorem c48_12 : xCD 48 12 = some (.getfield 22, [2, 1, 182]) := rfl
theorem c48_15 : xCD 48 15 = some (.idiv, []) := rfl
theorem c48_16 : xCD 48 16 = some (.iload_n 2, []) := rfl
theorem c48_17 : xCD 48 17 = some (.aload_n 0, []) := rfl
theorem c48_18 : xCD 48 18 = some (.getfield 22, [2, 1, 182]) := rfl
theorem c48_21 : xCD 48 21 = some (.idiv, []) := rfl
theorem c48_22 : xCD 48 22 = some (.isub, []) := rfl
theorem c48_23 : xCD 48 23 = some (.invokestatic 28, [1, 254, 255, 246, 256]) := rfl
theorem c48_26 : xCD 48 26 = some (.iload_n 1, []) := rfl
theorem c48_27 : xCD 48 27 = some (.aload_n 0, []) := rfl
theorem c48_28 : xCD 48 28 = some (.getfield 22, [2, 1, 182]) := rfl
theorem c48_31 : xCD 48 31 = some (.irem, []) := rfl
theorem c48_32 : xCD 48 32 = some (.iload_n 2, []) := rfl
theorem c48_33 : xCD 48 33 = some (.aload_n 0, []) := rfl
theorem c48_34 : xCD 48 34 = some (.getfield 22, [2, 1, 182]) := rfl
theorem c48_37 : xCD 48 37 = some (.irem, []) := rfl
theorem c48_38 : xCD 48 38 = some (.isub, []) := rfl
theorem c48_39 : xCD 48 39 = some (.invokestatic 28, [1, 254, 255, 246, 256]) := rfl
theorem c48_42 : xCD 48 42 = some (.iadd, []) := rfl
theorem c48_43 : xCD 48 43 = some (.ireturn, []) := rfl
theorem c50_0 : xCD 50 0 = some (.iload_n 1, []) := rfl
theorem c50_1 : xCD 50 1 = some (.ifCond .lt 8, [9]) := rfl
theorem c50_4 : xCD 50 4 = some (.iload_n 1, []) := rfl
theorem c50_5 : xCD 50 5 = some (.iconst 2, []) := rfl
theorem c50_6 : xCD 50 6 = some (.if_icmp .le 5, [11]) := rfl
theorem c50_9 : xCD 50 9 = some (.iconst (-1), []) := rfl
theorem c50_10 : xCD 50 10 = some (.ireturn, []) := rfl
theorem c50_11 : xCD 50 11 = some (.aload_n 0, []) := rfl
theorem c50_12 : xCD 50 12 = some (.invokevirtual 106, [42, 0, 0, 216, 218, 61, 217, 219]) := rfl
theorem c50_15 : xCD 50 15 = some (.aload_n 0, []) := rfl
theorem c50_16 : xCD 50 16 = some (.getfield 48, [0, 6, 35]) := rfl
theorem c50_19 : xCD 50 19 = some (.invokevirtual 123, [51, 0, 0, 257, 259, 31, 258, 260]) := rfl
theorem c50_22 : xCD 50 22 = some (.istore_n 2, []) := rfl
theorem c50_23 : xCD 50 23 = some (.iload_n 1, []) := rfl
theorem c50_24 : xCD 50 24 = some (.ifCond .ne 5, [29]) := rfl
theorem c50_27 : xCD 50 27 = some (.iload_n 2, []) := rfl
theorem c50_28 : xCD 50 28 = some (.ireturn, []) := rfl
theorem c50_29 : xCD 50 29 = some (.iload_n 1, []) := rfl
theorem c50_30 : xCD 50 30 = some (.iconst 1, []) := rfl
theorem c50_31 : xCD 50 31 = some (.if_icmp .ne 25, [56]) := rfl
theorem c50_34 : xCD 50 34 = some (.iload_n 2, []) := rfl
theorem c50_35 : xCD 50 35 = some (.aload_n 0, []) := rfl
theorem c50_36 : xCD 50 36 = some (.getfield 19, [0, 1, 14]) := rfl
theorem c50_39 : xCD 50 39 = some (.getfield 126, [2, 2, 261]) := rfl
theorem c50_42 : xCD 50 42 = some (.if_icmp .gt 7, [49]) := rfl
theorem c50_45 : xCD 50 45 = some (.iconst 1, []) := rfl
theorem c50_46 : xCD 50 46 = some (.goto 4, [50]) := rfl
theorem c50_49 : xCD 50 49 = some (.iconst 0, []) := rfl
theorem c50_50 : xCD 50 50 = some (.invokestatic 129, [55, 1, 0, 262, 264, 61, 263]) := rfl
theorem c50_53 : xCD 50 53 = some (.goto 10, [63]) := rfl
theorem c50_56 : xCD 50 56 = some (.aload_n 0, []) := rfl
theorem c50_57 : xCD 50 57 = some (.getfield 48, [0, 6, 35]) := rfl
theorem c50_60 : xCD 50 60 = some (.getfield 133, [5, 5, 265]) := rfl
theorem c50_63 : xCD 50 63 = some (.ireturn, []) := rfl
theorem c51_0 : xCD 51 0 = some (.aload_n 0, []) := rfl
theorem c51_1 : xCD 51 1 = some (.iconst 0, []) := rfl
theorem c51_2 : xCD 51 2 = some (.putfield 15, [5, 3, 92]) := rfl
theorem c51_5 : xCD 51 5 = some (.aload_n 0, []) := rfl
theorem c51_6 : xCD 51 6 = some (.iconst 0, []) := rfl
theorem c51_7 : xCD 51 7 = some (.putfield 19, [5, 4, 93]) := rfl
theorem c51_10 : xCD 51 10 = some (.aload_n 0, []) := rfl
theorem c51_11 : xCD 51 11 = some (.iconst 0, []) := rfl
theorem c51_12 : xCD 51 12 = some (.putfield 22, [5, 5, 94]) := rfl
theorem c51_15 : xCD 51 15 = some (.iconst 0, []) := rfl
theorem c51_16 : xCD 51 16 = some (.istore_n 1, []) := rfl
theorem c51_17 : xCD 51 17 = some (.iload_n 1, []) := rfl
theorem c51_18 : xCD 51 18 = some (.bipush 36, []) := rfl
theorem c51_20 : xCD 51 20 = some (.if_icmp .ge 16, [36]) := rfl
theorem c51_23 : xCD 51 23 = some (.aload_n 0, []) := rfl
theorem c51_24 : xCD 51 24 = some (.getfield 9, [5, 2, 91]) := rfl
theorem c51_27 : xCD 51 27 = some (.iload_n 1, []) := rfl
theorem c51_28 : xCD 51 28 = some (.iconst 0, []) := rfl
theorem c51_29 : xCD 51 29 = some (.iastore, []) := rfl
theorem c51_30 : xCD 51 30 = some (.iinc 1 1, []) := rfl
theorem c51_33 : xCD 51 33 = some (.goto (-16), [17]) := rfl
theorem c51_36 : xCD 51 36 = some (.iconst 0, []) := rfl
theorem c51_37 : xCD 51 37 = some (.istore_n 1, []) := rfl
theorem c51_38 : xCD 51 38 = some (.iload_n 1, []) := rfl
theorem c51_39 : xCD 51 39 = some (.aload_n 0, []) := rfl
theorem c51_40 : xCD 51 40 = some (.getfield 25, [5, 0, 95]) := rfl
theorem c51_43 : xCD 51 43 = some (.invokevirtual 82, [36, 0, 0, 266, 159, 11, 158, 160]) := rfl
theorem c51_46 : xCD 51 46 = some (.if_icmp .ge 14, [60]) := rfl
theorem c51_49 : xCD 51 49 = some (.aload_n 0, []) := rfl
theorem c51_50 : xCD 51 50 = some (.iload_n 1, []) := rfl
theorem c51_51 : xCD 51 51 = some (.invokevirtual 86, [52, 1, 0, 267, 269, 31, 268, 270]) := rfl
theorem c51_54 : xCD 51 54 = some (.iinc 1 1, []) := rfl
theorem c51_57 : xCD 51 57 = some (.goto (-19), [38]) := rfl
theorem c51_60 : xCD 51 60 = some (.aload_n 0, []) := rfl
theorem c51_61 : xCD 51 61 = some (.invokevirtual 90, [54, 0, 0, 271, 273, 31, 272, 274]) := rfl
theorem c51_64 : xCD 51 64 = some (.ireturn, []) := rfl
theorem c52_0 : xCD 52 0 = some (.aload_n 0, []) := rfl
theorem c52_1 : xCD 52 1 = some (.getfield 25, [5, 0, 95]) := rfl
theorem c52_4 : xCD 52 4 = some (.iload_n 1, []) := rfl
theorem c52_5 : xCD 52 5 = some (.invokevirtual 33, [30, 1, 0, 230, 143, 11, 142, 144]) := rfl
theorem c52_8 : xCD 52 8 = some (.ifCond .ne 4, [12]) := rfl
theorem c52_11 : xCD 52 11 = some (.return_, []) := rfl
theorem c52_12 : xCD 52 12 = some (.aload_n 0, []) := rfl
theorem c52_13 : xCD 52 13 = some (.aload_n 0, []) := rfl
theorem c52_14 : xCD 52 14 = some (.getfield 9, [5, 2, 91]) := rfl
theorem c52_17 : xCD 52 17 = some (.iload_n 1, []) := rfl
theorem c52_18 : xCD 52 18 = some (.iaload, []) := rfl
theorem c52_19 : xCD 52 19 = some (.iconst (-1), []) := rfl
theorem c52_20 : xCD 52 20 = some (.invokevirtual 93, [53, 2, 0, 275, 277, 31, 276, 278]) := rfl
theorem c52_23 : xCD 52 23 = some (.aload_n 0, []) := rfl
theorem c52_24 : xCD 52 24 = some (.getfield 9, [5, 2, 91]) := rfl
theorem c52_27 : xCD 52 27 = some (.iload_n 1, []) := rfl
theorem c52_28 : xCD 52 28 = some (.aload_n 0, []) := rfl
theorem c52_29 : xCD 52 29 = some (.iload_n 1, []) := rfl
theorem c52_30 : xCD 52 30 = some (.invokevirtual 97, [45, 1, 0, 279, 226, 31, 225, 227]) := rfl
theorem c52_33 : xCD 52 33 = some (.iastore, []) := rfl
theorem c52_34 : xCD 52 34 = some (.aload_n 0, []) := rfl
theorem c52_35 : xCD 52 35 = some (.aload_n 0, []) := rfl
theorem c52_36 : xCD 52 36 = some (.getfield 9, [5, 2, 91]) := rfl
theorem c52_39 : xCD 52 39 = some (.iload_n 1, []) := rfl
theorem c52_40 : xCD 52 40 = some (.iaload, []) := rfl
theorem c52_41 : xCD 52 41 = some (.iconst 1, []) := rfl
theorem c52_42 : xCD 52 42 = some (.invokevirtual 93, [53, 2, 0, 275, 277, 31, 276, 278]) := rfl
theorem c52_45 : xCD 52 45 = some (.return_, []) := rfl
theorem c53_0 : xCD 53 0 = some (.iload_n 1, []) := rfl
theorem c53_1 : xCD 53 1 = some (.ifCond .ne 4, [5]) := rfl
theorem c53_4 : xCD 53 4 = some (.return_, []) := rfl
theorem c53_5 : xCD 53 5 = some (.aload_n 0, []) := rfl
theorem c53_6 : xCD 53 6 = some (.dup, []) := rfl
theorem c53_7 : xCD 53 7 = some (.getfield 22, [5, 5, 94]) := rfl
theorem c53_10 : xCD 53 10 = some (.iload_n 2, []) := rfl
theorem c53_11 : xCD 53 11 = some (.iadd, []) := rfl
theorem c53_12 : xCD 53 12 = some (.putfield 22, [5, 5, 94]) := rfl
theorem c53_15 : xCD 53 15 = some (.iload_n 1, []) := rfl
theorem c53_16 : xCD 53 16 = some (.iconst 3, []) := rfl
theorem c53_17 : xCD 53 17 = some (.if_icmp .gt 18, [35]) := rfl
theorem c53_20 : xCD 53 20 = some (.aload_n 0, []) := rfl
theorem c53_21 : xCD 53 21 = some (.dup, []) := rfl
theorem c53_22 : xCD 53 22 = some (.getfield 15, [5, 3, 92]) := rfl
theorem c53_25 : xCD 53 25 = some (.iload_n 2, []) := rfl
theorem c53_26 : xCD 53 26 = some (.iload_n 1, []) := rfl
theorem c53_27 : xCD 53 27 = some (.imul, []) := rfl
theorem c53_28 : xCD 53 28 = some (.iadd, []) := rfl
theorem c53_29 : xCD 53 29 = some (.putfield 15, [5, 3, 92]) := rfl
theorem c53_32 : xCD 53 32 = some (.goto 15, [47]) := rfl
theorem c53_35 : xCD 53 35 = some (.aload_n 0, []) := rfl
theorem c53_36 : xCD 53 36 = some (.dup, []) := rfl
theorem c53_37 : xCD 53 37 = some (.getfield 19, [5, 4, 93]) := rfl
theorem c53_40 : xCD 53 40 = some (.iload_n 2, []) := rfl
theorem c53_41 : xCD 53 41 = some (.iload_n 1, []) := rfl
theorem c53_42 : xCD 53 42 = some (.imul, []) := rfl
theorem c53_43 : xCD 53 43 = some (.iadd, []) := rfl
theorem c53_44 : xCD 53 44 = some (.putfield 19, [5, 4, 93]) := rfl
theorem c53_47 : xCD 53 47 = some (.return_, []) := rfl
theorem c54_0 : xCD 54 0 = some (.aload_n 0, []) := rfl
theorem c54_1 : xCD 54 1 = some (.getfield 19, [5, 4, 93]) := rfl
theorem c54_4 : xCD 54 4 = some (.aload_n 0, []) := rfl
theorem c54_5 : xCD 54 5 = some (.getfield 15, [5, 3, 92]) := rfl
theorem c54_8 : xCD 54 8 = some (.iconst 3, []) := rfl
theorem c54_9 : xCD 54 9 = some (.idiv, []) := rfl
theorem c54_10 : xCD 54 10 = some (.iadd, []) := rfl
theorem c54_11 : xCD 54 11 = some (.ireturn, []) := rfl
theorem c55_0 : xCD 55 0 = some (.iload_n 0, []) := rfl
theorem c55_1 : xCD 55 1 = some (.ifCond .eq 7, [8]) := rfl
theorem c55_4 : xCD 55 4 = some (.iconst 1, []) := rfl
theorem c55_5 : xCD 55 5 = some (.goto 4, [9]) := rfl
theorem c55_8 : xCD 55 8 = some (.iconst 0, []) := rfl
theorem c55_9 : xCD 55 9 = some (.ireturn, []) := rfl
section
variable {X : Nat × (Nat → Int32)} {C : Nat → List Value → xHp → Option Value → xHp → Prop} {Q : Option Value → xHp → Prop} {D : zD} {ct : zM}
-- ('PaintedTown$Script', 'append', '(C)Z')
theorem b19_0 {x1 : Int32} (k1 : (ct 1 1) < (nI 0) → RUN X C 19 Q 17 [.ref 1, .int x1] [] (mk D ct)) (k2 : ¬ (ct 1 1) < (nI 0) → RUN X C 19 Q 7 [.ref 1, .int x1] [] (mk D ct)) : RUN X C 19 Q 0 [.ref 1, .int x1] [] (mk D ct) :=
  s_aload_n c19_0 rfl <|
  s_getf (ct := ct) c19_1 rfl (by decide) rfl <|
  s_iflt c19_4 k1 k2
theorem b19_7 {x1 : Int32} (k1 : (ct 1 1) < (nI 200) → RUN X C 19 Q 19 [.ref 1, .int x1] [] (mk D ct)) (k2 : ¬ (ct 1 1) < (nI 200) → RUN X C 19 Q 17 [.ref 1, .int x1] [] (mk D ct)) : RUN X C 19 Q 7 [.ref 1, .int x1] [] (mk D ct) :=
  s_aload_n c19_7 rfl <|
  s_getf (ct := ct) c19_8 rfl (by decide) rfl <|
  s_sipush c19_11 zcS_200 <|
  s_iclt c19_14 k1 k2
theorem b19_17 {x1 : Int32} (hq : Q (some (.int (nI 0))) (mk D ct)) : RUN X C 19 Q 17 [.ref 1, .int x1] [] (mk D ct) :=
  s_const c19_17 zcI_0 <|
  s_iret c19_18 (xrtZ rfl (Or.inl rfl)) hq
theorem b19_19 {x1 : Int32} {j28 : Nat} (hx28 : zix (ct 1 1) j28 200) (hv28 : vp_nar .char x1 = x1) (hq : Q (some (.int (nI 1))) (mk D (u2 (u2 ct 2 j28 x1) 1 1 ((ct 1 1) + (nI 1))))) : RUN X C 19 Q 19 [.ref 1, .int x1] [] (mk D ct) :=
  s_aload_n c19_19 rfl <|
  s_getf (ct := ct) c19_20 rfl (by decide) rfl <|
  s_aload_n c19_23 rfl <|
  s_getf (ct := ct) c19_24 rfl (by decide) rfl <|
  s_iload_n c19_27 rfl <|
  s_cast (ct := ct) c19_28 rfl hx28 hv28 <|
  s_aload_n c19_29 rfl <|
  s_dup c19_30 rfl <|
  s_getf (ct := (u2 ct 2 j28 x1)) c19_31 rfl (by decide) rfl <|
  s_const c19_34 zcI_1 <|
  s_iadd c19_35 <|
  s_putf (ct := (u2 ct 2 j28 x1)) c19_36 rfl (by decide) zint_1_1 xfit_1_1 <|
  s_const c19_39 zcI_1 <|
  s_iret c19_40 (xrtZ rfl (Or.inr rfl)) hq
-- ('PaintedTown', 'layScript', '()I')
theorem b20_0 (k1 : (ct 1 1) = (nI 0) → RUN X C 20 Q 22 [.ref 0] [] (mk D ct)) (k2 : ¬ (ct 1 1) = (nI 0) → RUN X C 20 Q 10 [.ref 0] [] (mk D ct)) : RUN X C 20 Q 0 [.ref 0] [] (mk D ct) :=
  s_aload_n c20_0 rfl <|
  s_getf (ct := ct) c20_1 rfl (by decide) rfl <|
  s_getf (ct := ct) c20_4 rfl (by decide) rfl <|
  s_ifeq c20_7 k1 k2
theorem b20_10 {D1 : zD} {ct1 : zM} {v1 : Int32} (he : C 21 [.ref 1] (mk D ct) (some (.int v1)) (mk D1 ct1)) (kk : RUN X C 20 Q 17 [.ref 0] [.int v1] (mk D1 ct1)) : RUN X C 20 Q 10 [.ref 0] [] (mk D ct) :=
  s_aload_n c20_10 rfl <|
  s_getf (ct := ct) c20_11 rfl (by decide) rfl <|
  s_callv (args := []) (r := []) c20_14 rfl rfl (Nat.le_of_ble_eq_true rfl) rfl ⟨rfl, by decide⟩ he kk
theorem b20_17 {xs0 : Int32} (k1 : xs0 = (-4) → RUN X C 20 Q 25 [.ref 0] [] (mk D ct)) (k2 : ¬ xs0 = (-4) → RUN X C 20 Q 22 [.ref 0] [] (mk D ct)) : RUN X C 20 Q 17 [.ref 0] [.int xs0] (mk D ct) :=
  s_bipush c20_17 zcB_m4 <|
  s_iceq c20_19 k1 k2
theorem b20_22 (hq : Q (some (.int (-2))) (mk D ct)) : RUN X C 20 Q 22 [.ref 0] [] (mk D ct) :=
  s_bipush c20_22 zcB_m2 <|
  s_iret c20_24 (xrtI rfl) hq
theorem b20_25 {D1 : zD} {ct1 : zM} {v1 : Int32} (he : C 30 [.ref 3, .int (ct 6 4)] (mk D ct) (some (.int v1)) (mk D1 ct1)) (kk : RUN X C 20 Q 45 [.ref 0] [.int v1] (mk D1 ct1)) : RUN X C 20 Q 25 [.ref 0] [] (mk D ct) :=
  s_aload_n c20_25 rfl <|
  s_getf (ct := ct) c20_26 rfl (by decide) rfl <|
  s_getf (ct := ct) c20_29 rfl (by decide) rfl <|
  s_aload_n c20_32 rfl <|
  s_getf (ct := ct) c20_33 rfl (by decide) rfl <|
  s_getf (ct := ct) c20_36 rfl (by decide) rfl <|
  s_getf (ct := ct) c20_39 rfl (by decide) rfl <|
  s_callv (args := [.int (ct 6 4)]) (r := []) c20_42 rfl rfl (Nat.le_of_ble_eq_true rfl) rfl ⟨rfl, by decide⟩ he kk
theorem b20_45 {xs0 : Int32} (k1 : xs0 = (nI 0) → RUN X C 20 Q 48 [.ref 0] [] (mk D ct)) (k2 : ¬ xs0 = (nI 0) → RUN X C 20 Q 51 [.ref 0] [] (mk D ct)) : RUN X C 20 Q 45 [.ref 0] [.int xs0] (mk D ct) :=
  s_ifne c20_45 k1 k2
theorem b20_48 (hq : Q (some (.int (-2))) (mk D ct)) : RUN X C 20 Q 48 [.ref 0] [] (mk D ct) :=
  s_bipush c20_48 zcB_m2 <|
  s_iret c20_50 (xrtI rfl) hq
theorem b20_51 {D1 : zD} {ct1 : zM} (he : C 33 [.ref 11, .ref 3] (mk D ct) none (mk D1 ct1)) (kk : RUN X C 20 Q 65 [.ref 0] [] (mk D1 ct1)) : RUN X C 20 Q 51 [.ref 0] [] (mk D ct) :=
  s_aload_n c20_51 rfl <|
  s_getf (ct := ct) c20_52 rfl (by decide) rfl <|
  s_aload_n c20_55 rfl <|
  s_getf (ct := ct) c20_56 rfl (by decide) rfl <|
  s_getf (ct := ct) c20_59 rfl (by decide) rfl <|
  s_callv (args := [.ref 3]) (r := []) c20_62 rfl rfl (Nat.le_of_ble_eq_true rfl) rfl ⟨rfl, by decide⟩ he kk
theorem b20_65 {D1 : zD} {ct1 : zM} (he : C 34 [.ref 14, .ref 6] (mk D ct) none (mk D1 ct1)) (kk : RUN X C 20 Q 79 [.ref 0] [] (mk D1 ct1)) : RUN X C 20 Q 65 [.ref 0] [] (mk D ct) :=
  s_aload_n c20_65 rfl <|
  s_getf (ct := ct) c20_66 rfl (by decide) rfl <|
  s_aload_n c20_69 rfl <|
  s_getf (ct := ct) c20_70 rfl (by decide) rfl <|
  s_getf (ct := ct) c20_73 rfl (by decide) rfl <|
  s_callv (args := [.ref 6]) (r := []) c20_76 rfl rfl (Nat.le_of_ble_eq_true rfl) rfl ⟨rfl, by decide⟩ he kk
theorem b20_79 {D1 : zD} {ct1 : zM} (he : C 35 [.ref 18] (mk D ct) none (mk D1 ct1)) (kk : RUN X C 20 Q 86 [.ref 0] [] (mk D1 ct1)) : RUN X C 20 Q 79 [.ref 0] [] (mk D ct) :=
  s_aload_n c20_79 rfl <|
  s_getf (ct := ct) c20_80 rfl (by decide) rfl <|
  s_callv (args := []) (r := []) c20_83 rfl rfl (Nat.le_of_ble_eq_true rfl) rfl ⟨rfl, by decide⟩ he kk
theorem b20_86 {D1 : zD} {ct1 : zM} (he : C 35 [.ref 20] (mk D ct) none (mk D1 ct1)) (kk : RUN X C 20 Q 93 [.ref 0] [] (mk D1 ct1)) : RUN X C 20 Q 86 [.ref 0] [] (mk D ct) :=
  s_aload_n c20_86 rfl <|
  s_getf (ct := ct) c20_87 rfl (by decide) rfl <|
  s_callv (args := []) (r := []) c20_90 rfl rfl (Nat.le_of_ble_eq_true rfl) rfl ⟨rfl, by decide⟩ he kk
theorem b20_93 {D1 : zD} {ct1 : zM} {v1 : Int32} (he : C 36 [.ref 11] (mk D (u2 ct 0 10 (nI 0))) (some (.int v1)) (mk D1 ct1)) (kk : RUN X C 20 Q 105 [.ref 0] [.int v1] (mk D1 ct1)) : RUN X C 20 Q 93 [.ref 0] [] (mk D ct) :=
  s_aload_n c20_93 rfl <|
  s_const c20_94 zcI_0 <|
  s_putf (ct := ct) c20_95 rfl (by decide) zint_0_10 xfit_0_10 <|
  s_aload_n c20_98 rfl <|
  s_getf (ct := (u2 ct 0 10 (nI 0))) c20_99 rfl (by decide) rfl <|
  s_callv (args := []) (r := []) c20_102 rfl rfl (Nat.le_of_ble_eq_true rfl) rfl ⟨rfl, by decide⟩ he kk
theorem b20_105 {xs0 : Int32} (hq : Q (some (.int xs0)) (mk D ct)) : RUN X C 20 Q 105 [.ref 0] [.int xs0] (mk D ct) :=
  s_iret c20_105 (xrtI rfl) hq
-- ('PaintedTown$Script', 'read', '()I')
theorem b21_0 {l1 : Value} {l2 : Value} {l3 : Value} {D1 : zD} {ct1 : zM} (he : C 22 [.ref 3] (mk D ct) none (mk D1 ct1)) (kk : RUN X C 21 Q 7 [.ref 1, l1, l2, l3] [] (mk D1 ct1)) : RUN X C 21 Q 0 [.ref 1, l1, l2, l3] [] (mk D ct) :=
  s_aload_n c21_0 rfl <|
  s_getf (ct := ct) c21_1 rfl (by decide) rfl <|
  s_callv (args := []) (r := []) c21_4 rfl rfl (Nat.le_of_ble_eq_true rfl) rfl ⟨rfl, by decide⟩ he kk
theorem b21_7 {l1 : Value} {l2 : Value} {l3 : Value} {D1 : zD} {ct1 : zM} (he : C 23 [.ref 6] (mk D ct) none (mk D1 ct1)) (kk : RUN X C 21 Q 14 [.ref 1, l1, l2, l3] [] (mk D1 ct1)) : RUN X C 21 Q 7 [.ref 1, l1, l2, l3] [] (mk D ct) :=
  s_aload_n c21_7 rfl <|
  s_getf (ct := ct) c21_8 rfl (by decide) rfl <|
  s_callv (args := []) (r := []) c21_11 rfl rfl (Nat.le_of_ble_eq_true rfl) rfl ⟨rfl, by decide⟩ he kk
theorem b21_14 {l1 : Value} {l2 : Value} {l3 : Value} (kk : RUN X C 21 Q 23 [.ref 1, .int (nI 0), .int (nI 0), l3] [] (mk D (u2 ct 1 6 (nI 0)))) : RUN X C 21 Q 14 [.ref 1, l1, l2, l3] [] (mk D ct) :=
  s_aload_n c21_14 rfl <|
  s_const c21_15 zcI_0 <|
  s_putf (ct := ct) c21_16 rfl (by decide) zint_1_6 (xfit_1_6 (Or.inl rfl)) <|
  s_const c21_19 zcI_0 <|
  s_istore_n c21_20 (Nat.le_of_ble_eq_true rfl) True.intro <|
  s_const c21_21 zcI_0 <|
  s_istore_n c21_22 (Nat.le_of_ble_eq_true rfl) True.intro <|
  kk
theorem b21_23 {x1 : Int32} {x2 : Int32} {l3 : Value} (k1 : (nI 200) ≤ x2 → RUN X C 21 Q 74 [.ref 1, .int x1, .int x2, l3] [] (mk D ct)) (k2 : ¬ (nI 200) ≤ x2 → RUN X C 21 Q 30 [.ref 1, .int x1, .int x2, l3] [] (mk D ct)) : RUN X C 21 Q 23 [.ref 1, .int x1, .int x2, l3] [] (mk D ct) :=
  s_iload_n c21_23 rfl <|
  s_sipush c21_24 zcS_200 <|
  s_icge c21_27 k1 k2
theorem b21_30 {x1 : Int32} {x2 : Int32} {l3 : Value} (k1 : (ct 1 1) ≤ x1 → RUN X C 21 Q 74 [.ref 1, .int x1, .int x2, l3] [] (mk D ct)) (k2 : ¬ (ct 1 1) ≤ x1 → RUN X C 21 Q 38 [.ref 1, .int x1, .int x2, l3] [] (mk D ct)) : RUN X C 21 Q 30 [.ref 1, .int x1, .int x2, l3] [] (mk D ct) :=
  s_iload_n c21_30 rfl <|
  s_aload_n c21_31 rfl <|
  s_getf (ct := ct) c21_32 rfl (by decide) rfl <|
  s_icge c21_35 k1 k2
theorem b21_38 {x1 : Int32} {x2 : Int32} {l3 : Value} {D1 : zD} {ct1 : zM} {v1 : Int32} (he : C 24 [.ref 1, .int (x1 + (nI 1))] (mk D ct) (some (.int v1)) (mk D1 ct1)) (kk : RUN X C 21 Q 45 [.ref 1, .int x1, .int x2, l3] [.int v1] (mk D1 ct1)) : RUN X C 21 Q 38 [.ref 1, .int x1, .int x2, l3] [] (mk D ct) :=
  s_aload_n c21_38 rfl <|
  s_iload_n c21_39 rfl <|
  s_const c21_40 zcI_1 <|
  s_iadd c21_41 <|
  s_callv (args := [.int (x1 + (nI 1))]) (r := []) c21_42 rfl rfl (Nat.le_of_ble_eq_true rfl) rfl ⟨rfl, by decide⟩ he kk
theorem b21_45 {x1 : Int32} {x2 : Int32} {l3 : Value} {xs0 : Int32} (k1 : xs0 = (-4) → RUN X C 21 Q 64 [.ref 1, .int x1, .int x2, .int xs0] [] (mk D ct)) (k2 : ¬ xs0 = (-4) → RUN X C 21 Q 52 [.ref 1, .int x1, .int x2, .int xs0] [] (mk D ct)) : RUN X C 21 Q 45 [.ref 1, .int x1, .int x2, l3] [.int xs0] (mk D ct) :=
  s_istore_n c21_45 (Nat.le_of_ble_eq_true rfl) True.intro <|
  s_iload_n c21_46 rfl <|
  s_bipush c21_47 zcB_m4 <|
  s_iceq c21_49 k1 k2
theorem b21_52 {x1 : Int32} {x2 : Int32} {x3 : Int32} {D1 : zD} {ct1 : zM} {v1 : Int32} (he : C 25 [.ref 1, .int x1] (mk D ct) (some (.int v1)) (mk D1 ct1)) (kk : RUN X C 21 Q 58 [.ref 1, .int x1, .int x2, .int x3] [.int v1, .ref 1] (mk D1 ct1)) : RUN X C 21 Q 52 [.ref 1, .int x1, .int x2, .int x3] [] (mk D ct) :=
  s_aload_n c21_52 rfl <|
  s_aload_n c21_53 rfl <|
  s_iload_n c21_54 rfl <|
  s_callv (args := [.int x1]) (r := [.ref 1]) c21_55 rfl rfl (Nat.le_of_ble_eq_true rfl) rfl ⟨rfl, by decide⟩ he kk
theorem b21_58 {x1 : Int32} {x2 : Int32} {x3 : Int32} {xs1 : Int32} {D1 : zD} {ct1 : zM} {v1 : Int32} (he : C 27 [.ref 1, .int xs1] (mk D ct) (some (.int v1)) (mk D1 ct1)) (kk : RUN X C 21 Q 61 [.ref 1, .int x1, .int x2, .int x3] [.int v1] (mk D1 ct1)) : RUN X C 21 Q 58 [.ref 1, .int x1, .int x2, .int x3] [.int xs1, .ref 1] (mk D ct) :=
  s_callv (args := [.int xs1]) (r := []) c21_58 rfl rfl (Nat.le_of_ble_eq_true rfl) rfl ⟨rfl, by decide⟩ he kk
theorem b21_61 {x1 : Int32} {x2 : Int32} {x3 : Int32} {xs0 : Int32} (k1 : xs0 = (nI 0) → RUN X C 21 Q 64 [.ref 1, .int x1, .int x2, .int x3] [] (mk D ct)) (k2 : ¬ xs0 = (nI 0) → RUN X C 21 Q 66 [.ref 1, .int x1, .int x2, .int x3] [] (mk D ct)) : RUN X C 21 Q 61 [.ref 1, .int x1, .int x2, .int x3] [.int xs0] (mk D ct) :=
  s_ifne c21_61 k1 k2
theorem b21_64 {x1 : Int32} {x2 : Int32} {x3 : Int32} (hq : Q (some (.int x1)) (mk D ct)) : RUN X C 21 Q 64 [.ref 1, .int x1, .int x2, .int x3] [] (mk D ct) :=
  s_iload_n c21_64 rfl <|
  s_iret c21_65 (xrtI rfl) hq
theorem b21_66 {x1 : Int32} {x2 : Int32} {x3 : Int32} (kk : RUN X C 21 Q 23 [.ref 1, .int x3, .int (x2 + nI 1), .int x3] [] (mk D ct)) : RUN X C 21 Q 66 [.ref 1, .int x1, .int x2, .int x3] [] (mk D ct) :=
  s_iload_n c21_66 rfl <|
  s_istore_n c21_67 (Nat.le_of_ble_eq_true rfl) True.intro <|
  s_iinc c21_68 rfl True.intro zcI_1 <|
  s_goto c21_71 <|
  kk
theorem b21_74 {x1 : Int32} {x2 : Int32} {l3 : Value} (hq : Q (some (.int (-4))) (mk D ct)) : RUN X C 21 Q 74 [.ref 1, .int x1, .int x2, l3] [] (mk D ct) :=
  s_bipush c21_74 zcB_m4 <|
  s_iret c21_76 (xrtI rfl) hq
-- ('PaintedTown$Painting', 'clear', '()V')
theorem b22_0 {a0 : Nat} (ha0 : zsh D a0 = (2, 0)) {l1 : Value} (kk : RUN X C 22 Q 18 [.ref a0, .int (nI 0)] [] (mk D (u2 (u2 (u2 ct a0 0 (nI 4)) a0 1 (nI 5)) a0 2 (nI 10)))) : RUN X C 22 Q 0 [.ref a0, l1] [] (mk D ct) :=
  s_aload_n c22_0 rfl <|
  s_const c22_1 zcI_4 <|
  s_putf (ct := ct) c22_2 ha0 (by decide) zint_2_0 xfit_2_0 <|
  s_aload_n c22_5 rfl <|
  s_const c22_6 zcI_5 <|
  s_putf (ct := (u2 ct a0 0 (nI 4))) c22_7 ha0 (by decide) zint_2_1 xfit_2_1 <|
  s_aload_n c22_10 rfl <|
  s_bipush c22_11 zcB_10 <|
  s_putf (ct := (u2 (u2 ct a0 0 (nI 4)) a0 1 (nI 5))) c22_13 ha0 (by decide) zint_2_2 xfit_2_2 <|
  s_const c22_16 zcI_0 <|
  s_istore_n c22_17 (Nat.le_of_ble_eq_true rfl) True.intro <|
  kk
theorem b22_18 {a0 : Nat} (ha0 : zsh D a0 = (2, 0)) {x1 : Int32} (k1 : (nI 36) ≤ x1 → RUN X C 22 Q 37 [.ref a0, .int x1] [] (mk D ct)) (k2 : ¬ (nI 36) ≤ x1 → RUN X C 22 Q 24 [.ref a0, .int x1] [] (mk D ct)) : RUN X C 22 Q 18 [.ref a0, .int x1] [] (mk D ct) :=
  s_iload_n c22_18 rfl <|
  s_bipush c22_19 zcB_36 <|
  s_icge c22_21 k1 k2
theorem b22_24 {a0 : Nat} (ha0 : zsh D a0 = (2, 0)) {x1 : Int32} {j30 : Nat} (hx30 : zix x1 j30 36) (kk : RUN X C 22 Q 18 [.ref a0, .int (x1 + nI 1)] [] (mk D (u2 ct (a0 + 1) j30 (nI 0)))) : RUN X C 22 Q 24 [.ref a0, .int x1] [] (mk D ct) :=
  s_aload_n c22_24 rfl <|
  s_getf (ct := ct) c22_25 ha0 (by decide) rfl <|
  s_iload_n c22_28 rfl <|
  s_const c22_29 zcI_0 <|
  s_iast (ct := ct) c22_30 (zsh_p1 ha0).1 hx30 <|
  s_iinc c22_31 rfl True.intro zcI_1 <|
  s_goto c22_34 <|
  kk
theorem b22_37 {a0 : Nat} (ha0 : zsh D a0 = (2, 0)) {x1 : Int32} (kk : RUN X C 22 Q 39 [.ref a0, .int (nI 0)] [] (mk D ct)) : RUN X C 22 Q 37 [.ref a0, .int x1] [] (mk D ct) :=
  s_const c22_37 zcI_0 <|
  s_istore_n c22_38 (Nat.le_of_ble_eq_true rfl) True.intro <|
  kk
theorem b22_39 {a0 : Nat} (ha0 : zsh D a0 = (2, 0)) {x1 : Int32} (k1 : (nI 4) ≤ x1 → RUN X C 22 Q 66 [.ref a0, .int x1] [] (mk D ct)) (k2 : ¬ (nI 4) ≤ x1 → RUN X C 22 Q 44 [.ref a0, .int x1] [] (mk D ct)) : RUN X C 22 Q 39 [.ref a0, .int x1] [] (mk D ct) :=
  s_iload_n c22_39 rfl <|
  s_const c22_40 zcI_4 <|
  s_icge c22_41 k1 k2
theorem b22_44 {a0 : Nat} (ha0 : zsh D a0 = (2, 0)) {x1 : Int32} (k1 : x1 = (nI 0) → RUN X C 22 Q 53 [.ref a0, .int x1] [.int x1, .ref (a0 + 2)] (mk D ct)) (k2 : ¬ x1 = (nI 0) → RUN X C 22 Q 58 [.ref a0, .int x1] [.int x1, .ref (a0 + 2)] (mk D ct)) : RUN X C 22 Q 44 [.ref a0, .int x1] [] (mk D ct) :=
  s_aload_n c22_44 rfl <|
  s_getf (ct := ct) c22_45 ha0 (by decide) rfl <|
  s_iload_n c22_48 rfl <|
  s_iload_n c22_49 rfl <|
  s_ifne c22_50 k1 k2
theorem b22_53 {a0 : Nat} (ha0 : zsh D a0 = (2, 0)) {x1 : Int32} {as0 : Nat} (has0 : zsh D as0 = (10, 4)) {xs1 : Int32} {j59 : Nat} (hx59 : zix xs1 j59 4) (kk : RUN X C 22 Q 39 [.ref a0, .int (x1 + nI 1)] [] (mk D (u2 ct as0 j59 (nI 10)))) : RUN X C 22 Q 53 [.ref a0, .int x1] [.int xs1, .ref as0] (mk D ct) :=
  s_bipush c22_53 zcB_10 <|
  s_goto c22_55 <|
  s_iast (ct := ct) c22_59 has0 hx59 <|
  s_iinc c22_60 rfl True.intro zcI_1 <|
  s_goto c22_63 <|
  kk
theorem b22_58 {a0 : Nat} (ha0 : zsh D a0 = (2, 0)) {x1 : Int32} {as0 : Nat} (has0 : zsh D as0 = (10, 4)) {xs1 : Int32} {j59 : Nat} (hx59 : zix xs1 j59 4) (kk : RUN X C 22 Q 39 [.ref a0, .int (x1 + nI 1)] [] (mk D (u2 ct as0 j59 (nI 0)))) : RUN X C 22 Q 58 [.ref a0, .int x1] [.int xs1, .ref as0] (mk D ct) :=
  s_const c22_58 zcI_0 <|
  s_iast (ct := ct) c22_59 has0 hx59 <|
  s_iinc c22_60 rfl True.intro zcI_1 <|
  s_goto c22_63 <|
  kk
theorem b22_66 {a0 : Nat} (ha0 : zsh D a0 = (2, 0)) {x1 : Int32} (hq : Q none (mk D ct)) : RUN X C 22 Q 66 [.ref a0, .int x1] [] (mk D ct) :=
  s_ret c22_66 rfl hq
-- ('PaintedTown$Town', 'clear', '()V')
theorem b23_0 {a0 : Nat} (ha0 : zsh D a0 = (3, 0)) {l1 : Value} (kk : RUN X C 23 Q 2 [.ref a0, .int (nI 0)] [] (mk D ct)) : RUN X C 23 Q 0 [.ref a0, l1] [] (mk D ct) :=
  s_const c23_0 zcI_0 <|
  s_istore_n c23_1 (Nat.le_of_ble_eq_true rfl) True.intro <|
  kk
theorem b23_2 {a0 : Nat} (ha0 : zsh D a0 = (3, 0)) {x1 : Int32} (k1 : (nI 36) ≤ x1 → RUN X C 23 Q 35 [.ref a0, .int x1] [] (mk D ct)) (k2 : ¬ (nI 36) ≤ x1 → RUN X C 23 Q 8 [.ref a0, .int x1] [] (mk D ct)) : RUN X C 23 Q 2 [.ref a0, .int x1] [] (mk D ct) :=
  s_iload_n c23_2 rfl <|
  s_bipush c23_3 zcB_36 <|
  s_icge c23_5 k1 k2
theorem b23_8 {a0 : Nat} (ha0 : zsh D a0 = (3, 0)) {x1 : Int32} {j14 : Nat} (hx14 : zix x1 j14 36) {j21 : Nat} (hx21 : zix x1 j21 36) {j28 : Nat} (hx28 : zix x1 j28 36) (kk : RUN X C 23 Q 2 [.ref a0, .int (x1 + nI 1)] [] (mk D (u2 (u2 (u2 ct (a0 + 1) j14 (nI 0)) (a0 + 2) j21 (nI 0)) (a0 + 3) j28 (nI 0)))) : RUN X C 23 Q 8 [.ref a0, .int x1] [] (mk D ct) :=
  s_aload_n c23_8 rfl <|
  s_getf (ct := ct) c23_9 ha0 (by decide) rfl <|
  s_iload_n c23_12 rfl <|
  s_const c23_13 zcI_0 <|
  s_iast (ct := ct) c23_14 (zsh_t1 ha0) hx14 <|
  s_aload_n c23_15 rfl <|
  s_getf (ct := (u2 ct (a0 + 1) j14 (nI 0))) c23_16 ha0 (by decide) rfl <|
  s_iload_n c23_19 rfl <|
  s_const c23_20 zcI_0 <|
  s_iast (ct := (u2 ct (a0 + 1) j14 (nI 0))) c23_21 (zsh_t2 ha0) hx21 <|
  s_aload_n c23_22 rfl <|
  s_getf (ct := (u2 (u2 ct (a0 + 1) j14 (nI 0)) (a0 + 2) j21 (nI 0))) c23_23 ha0 (by decide) rfl <|
  s_iload_n c23_26 rfl <|
  s_const c23_27 zcI_0 <|
  s_bast (ct := (u2 (u2 ct (a0 + 1) j14 (nI 0)) (a0 + 2) j21 (nI 0))) c23_28 (zsh_t3 ha0) hx28 (Or.inl rfl) <|
  s_iinc c23_29 rfl True.intro zcI_1 <|
  s_goto c23_32 <|
  kk
theorem b23_35 {a0 : Nat} (ha0 : zsh D a0 = (3, 0)) {x1 : Int32} (hq : Q none (mk D (u2 (u2 (u2 ct a0 3 (nI 0)) a0 4 (nI 0)) a0 5 (nI 0)))) : RUN X C 23 Q 35 [.ref a0, .int x1] [] (mk D ct) :=
  s_aload_n c23_35 rfl <|
  s_const c23_36 zcI_0 <|
  s_putf (ct := ct) c23_37 ha0 (by decide) zint_3_3 xfit_3_3 <|
  s_aload_n c23_40 rfl <|
  s_const c23_41 zcI_0 <|
  s_putf (ct := (u2 ct a0 3 (nI 0))) c23_42 ha0 (by decide) zint_3_4 xfit_3_4 <|
  s_aload_n c23_45 rfl <|
  s_const c23_46 zcI_0 <|
  s_putf (ct := (u2 (u2 ct a0 3 (nI 0)) a0 4 (nI 0))) c23_47 ha0 (by decide) zint_3_5 xfit_3_5 <|
  s_ret c23_50 rfl hq
-- ('PaintedTown$Script', 'readNumbers', '(I)I')
theorem b24_0 {x1 : Int32} {l2 : Value} {l3 : Value} {l4 : Value} {l5 : Value} (kk : RUN X C 24 Q 4 [.ref 1, .int x1, .int x1, .int (nI 0), l4, l5] [] (mk D ct)) : RUN X C 24 Q 0 [.ref 1, .int x1, l2, l3, l4, l5] [] (mk D ct) :=
  s_iload_n c24_0 rfl <|
  s_istore_n c24_1 (Nat.le_of_ble_eq_true rfl) True.intro <|
  s_const c24_2 zcI_0 <|
  s_istore_n c24_3 (Nat.le_of_ble_eq_true rfl) True.intro <|
  kk
theorem b24_4 {x1 : Int32} {x2 : Int32} {x3 : Int32} {l4 : Value} {l5 : Value} (k1 : (nI 4) ≤ x3 → RUN X C 24 Q 116 [.ref 1, .int x1, .int x2, .int x3, l4, l5] [] (mk D ct)) (k2 : ¬ (nI 4) ≤ x3 → RUN X C 24 Q 9 [.ref 1, .int x1, .int x2, .int x3, l4, l5] [] (mk D ct)) : RUN X C 24 Q 4 [.ref 1, .int x1, .int x2, .int x3, l4, l5] [] (mk D ct) :=
  s_iload_n c24_4 rfl <|
  s_const c24_5 zcI_4 <|
  s_icge c24_6 k1 k2
theorem b24_9 {x1 : Int32} {x2 : Int32} {x3 : Int32} {l4 : Value} {l5 : Value} {D1 : zD} {ct1 : zM} {v1 : Int32} (he : C 25 [.ref 1, .int x2] (mk D ct) (some (.int v1)) (mk D1 ct1)) (kk : RUN X C 24 Q 14 [.ref 1, .int x1, .int x2, .int x3, l4, l5] [.int v1] (mk D1 ct1)) : RUN X C 24 Q 9 [.ref 1, .int x1, .int x2, .int x3, l4, l5] [] (mk D ct) :=
  s_aload_n c24_9 rfl <|
  s_iload_n c24_10 rfl <|
  s_callv (args := [.int x2]) (r := []) c24_11 rfl rfl (Nat.le_of_ble_eq_true rfl) rfl ⟨rfl, by decide⟩ he kk
theorem b24_14 {x1 : Int32} {x2 : Int32} {x3 : Int32} {l4 : Value} {l5 : Value} {xs0 : Int32} {D1 : zD} {ct1 : zM} {v1 : Int32} (he : C 26 [.int xs0] (mk D ct) (some (.int v1)) (mk D1 ct1)) (kk : RUN X C 24 Q 17 [.ref 1, .int x1, .int x2, .int x3, l4, l5] [.int v1] (mk D1 ct1)) : RUN X C 24 Q 14 [.ref 1, .int x1, .int x2, .int x3, l4, l5] [.int xs0] (mk D ct) :=
  s_calls (args := [.int xs0]) (r := []) c24_14 rfl rfl (Nat.le_of_ble_eq_true rfl) he kk
theorem b24_17 {x1 : Int32} {x2 : Int32} {x3 : Int32} {l4 : Value} {l5 : Value} {xs0 : Int32} (k1 : xs0 = (nI 0) → RUN X C 24 Q 20 [.ref 1, .int x1, .int x2, .int x3, l4, l5] [] (mk D ct)) (k2 : ¬ xs0 = (nI 0) → RUN X C 24 Q 23 [.ref 1, .int x1, .int x2, .int x3, l4, l5] [] (mk D ct)) : RUN X C 24 Q 17 [.ref 1, .int x1, .int x2, .int x3, l4, l5] [.int xs0] (mk D ct) :=
  s_ifne c24_17 k1 k2
theorem b24_20 {x1 : Int32} {x2 : Int32} {x3 : Int32} {l4 : Value} {l5 : Value} (hq : Q (some (.int (-4))) (mk D ct)) : RUN X C 24 Q 20 [.ref 1, .int x1, .int x2, .int x3, l4, l5] [] (mk D ct) :=
  s_bipush c24_20 zcB_m4 <|
  s_iret c24_22 (xrtI rfl) hq
theorem b24_23 {x1 : Int32} {x2 : Int32} {x3 : Int32} {l4 : Value} {l5 : Value} {D1 : zD} {ct1 : zM} {v1 : Int32} (he : C 25 [.ref 1, .int x2] (mk D ct) (some (.int v1)) (mk D1 ct1)) (kk : RUN X C 24 Q 28 [.ref 1, .int x1, .int x2, .int x3, l4, l5] [.int v1] (mk D1 ct1)) : RUN X C 24 Q 23 [.ref 1, .int x1, .int x2, .int x3, l4, l5] [] (mk D ct) :=
  s_aload_n c24_23 rfl <|
  s_iload_n c24_24 rfl <|
  s_callv (args := [.int x2]) (r := []) c24_25 rfl rfl (Nat.le_of_ble_eq_true rfl) rfl ⟨rfl, by decide⟩ he kk
theorem b24_28 {x1 : Int32} {x2 : Int32} {x3 : Int32} {l4 : Value} {l5 : Value} {xs0 : Int32} {D1 : zD} {ct1 : zM} {v1 : Int32} (he : C 25 [.ref 1, .int (x2 + nI 1)] (mk D ct) (some (.int v1)) (mk D1 ct1)) (kk : RUN X C 24 Q 41 [.ref 1, .int x1, .int (x2 + nI 1), .int x3, .int (xs0 - (nI 48)), l5] [.int v1] (mk D1 ct1)) : RUN X C 24 Q 28 [.ref 1, .int x1, .int x2, .int x3, l4, l5] [.int xs0] (mk D ct) :=
  s_bipush c24_28 zcB_48 <|
  s_isub c24_30 <|
  s_istore c24_31 (Nat.le_of_ble_eq_true rfl) True.intro <|
  s_iinc c24_33 rfl True.intro zcI_1 <|
  s_aload_n c24_36 rfl <|
  s_iload_n c24_37 rfl <|
  s_callv (args := [.int (x2 + nI 1)]) (r := []) c24_38 rfl rfl (Nat.le_of_ble_eq_true rfl) rfl ⟨rfl, by decide⟩ he kk
theorem b24_41 {x1 : Int32} {x2 : Int32} {x3 : Int32} {x4 : Int32} {l5 : Value} {xs0 : Int32} {D1 : zD} {ct1 : zM} {v1 : Int32} (he : C 26 [.int xs0] (mk D ct) (some (.int v1)) (mk D1 ct1)) (kk : RUN X C 24 Q 44 [.ref 1, .int x1, .int x2, .int x3, .int x4, l5] [.int v1] (mk D1 ct1)) : RUN X C 24 Q 41 [.ref 1, .int x1, .int x2, .int x3, .int x4, l5] [.int xs0] (mk D ct) :=
  s_calls (args := [.int xs0]) (r := []) c24_41 rfl rfl (Nat.le_of_ble_eq_true rfl) he kk
theorem b24_44 {x1 : Int32} {x2 : Int32} {x3 : Int32} {x4 : Int32} {l5 : Value} {xs0 : Int32} (k1 : xs0 = (nI 0) → RUN X C 24 Q 66 [.ref 1, .int x1, .int x2, .int x3, .int x4, l5] [] (mk D ct)) (k2 : ¬ xs0 = (nI 0) → RUN X C 24 Q 47 [.ref 1, .int x1, .int x2, .int x3, .int x4, l5] [] (mk D ct)) : RUN X C 24 Q 44 [.ref 1, .int x1, .int x2, .int x3, .int x4, l5] [.int xs0] (mk D ct) :=
  s_ifeq c24_44 k1 k2
theorem b24_47 {x1 : Int32} {x2 : Int32} {x3 : Int32} {x4 : Int32} {l5 : Value} {D1 : zD} {ct1 : zM} {v1 : Int32} (he : C 25 [.ref 1, .int x2] (mk D ct) (some (.int v1)) (mk D1 ct1)) (kk : RUN X C 24 Q 57 [.ref 1, .int x1, .int x2, .int x3, .int x4, l5] [.int v1, .int ((nI 10) * x4)] (mk D1 ct1)) : RUN X C 24 Q 47 [.ref 1, .int x1, .int x2, .int x3, .int x4, l5] [] (mk D ct) :=
  s_bipush c24_47 zcB_10 <|
  s_iload c24_49 rfl <|
  s_imul c24_51 <|
  s_aload_n c24_52 rfl <|
  s_iload_n c24_53 rfl <|
  s_callv (args := [.int x2]) (r := [.int ((nI 10) * x4)]) c24_54 rfl rfl (Nat.le_of_ble_eq_true rfl) rfl ⟨rfl, by decide⟩ he kk
theorem b24_57 {x1 : Int32} {x2 : Int32} {x3 : Int32} {x4 : Int32} {l5 : Value} {xs0 : Int32} {xs1 : Int32} {D1 : zD} {ct1 : zM} {v1 : Int32} {j73 : Nat} (hx73 : zix x3 j73 4) (he : C 25 [.ref 1, .int (x2 + nI 1)] (mk D (u2 (u2 ct 10 j73 ((xs0 + xs1) - (nI 48))) 1 5 (x3 + (nI 1)))) (some (.int v1)) (mk D1 ct1)) (kk : RUN X C 24 Q 86 [.ref 1, .int x1, .int (x2 + nI 1), .int x3, .int ((xs0 + xs1) - (nI 48)), l5] [.int v1] (mk D1 ct1)) : RUN X C 24 Q 57 [.ref 1, .int x1, .int x2, .int x3, .int x4, l5] [.int xs1, .int xs0] (mk D ct) :=
  s_iadd c24_57 <|
  s_bipush c24_58 zcB_48 <|
  s_isub c24_60 <|
  s_istore c24_61 (Nat.le_of_ble_eq_true rfl) True.intro <|
  s_iinc c24_63 rfl True.intro zcI_1 <|
  s_aload_n c24_66 rfl <|
  s_getf (ct := ct) c24_67 rfl (by decide) rfl <|
  s_iload_n c24_70 rfl <|
  s_iload c24_71 rfl <|
  s_iast (ct := ct) c24_73 rfl hx73 <|
  s_aload_n c24_74 rfl <|
  s_iload_n c24_75 rfl <|
  s_const c24_76 zcI_1 <|
  s_iadd c24_77 <|
  s_putf (ct := (u2 ct 10 j73 ((xs0 + xs1) - (nI 48)))) c24_78 rfl (by decide) zint_1_5 xfit_1_5 <|
  s_aload_n c24_81 rfl <|
  s_iload_n c24_82 rfl <|
  s_callv (args := [.int (x2 + nI 1)]) (r := []) c24_83 rfl rfl (Nat.le_of_ble_eq_true rfl) rfl ⟨rfl, by decide⟩ he kk
theorem b24_66 {x1 : Int32} {x2 : Int32} {x3 : Int32} {x4 : Int32} {l5 : Value} {D1 : zD} {ct1 : zM} {v1 : Int32} {j73 : Nat} (hx73 : zix x3 j73 4) (he : C 25 [.ref 1, .int x2] (mk D (u2 (u2 ct 10 j73 x4) 1 5 (x3 + (nI 1)))) (some (.int v1)) (mk D1 ct1)) (kk : RUN X C 24 Q 86 [.ref 1, .int x1, .int x2, .int x3, .int x4, l5] [.int v1] (mk D1 ct1)) : RUN X C 24 Q 66 [.ref 1, .int x1, .int x2, .int x3, .int x4, l5] [] (mk D ct) :=
  s_aload_n c24_66 rfl <|
  s_getf (ct := ct) c24_67 rfl (by decide) rfl <|
  s_iload_n c24_70 rfl <|
  s_iload c24_71 rfl <|
  s_iast (ct := ct) c24_73 rfl hx73 <|
  s_aload_n c24_74 rfl <|
  s_iload_n c24_75 rfl <|
  s_const c24_76 zcI_1 <|
  s_iadd c24_77 <|
  s_putf (ct := (u2 ct 10 j73 x4)) c24_78 rfl (by decide) zint_1_5 xfit_1_5 <|
  s_aload_n c24_81 rfl <|
  s_iload_n c24_82 rfl <|
  s_callv (args := [.int x2]) (r := []) c24_83 rfl rfl (Nat.le_of_ble_eq_true rfl) rfl ⟨rfl, by decide⟩ he kk
theorem b24_86 {x1 : Int32} {x2 : Int32} {x3 : Int32} {x4 : Int32} {l5 : Value} {xs0 : Int32} (k1 : xs0 = (nI 59) → RUN X C 24 Q 98 [.ref 1, .int x1, .int (x2 + nI 1), .int x3, .int x4, .int xs0] [] (mk D ct)) (k2 : ¬ xs0 = (nI 59) → RUN X C 24 Q 100 [.ref 1, .int x1, .int (x2 + nI 1), .int x3, .int x4, .int xs0] [] (mk D ct)) : RUN X C 24 Q 86 [.ref 1, .int x1, .int x2, .int x3, .int x4, l5] [.int xs0] (mk D ct) :=
  s_istore c24_86 (Nat.le_of_ble_eq_true rfl) True.intro <|
  s_iinc c24_88 rfl True.intro zcI_1 <|
  s_iload c24_91 rfl <|
  s_bipush c24_93 zcB_59 <|
  s_icne c24_95 k1 k2
theorem b24_98 {x1 : Int32} {x2 : Int32} {x3 : Int32} {x4 : Int32} {x5 : Int32} (hq : Q (some (.int x2)) (mk D ct)) : RUN X C 24 Q 98 [.ref 1, .int x1, .int x2, .int x3, .int x4, .int x5] [] (mk D ct) :=
  s_iload_n c24_98 rfl <|
  s_iret c24_99 (xrtI rfl) hq
theorem b24_100 {x1 : Int32} {x2 : Int32} {x3 : Int32} {x4 : Int32} {x5 : Int32} (k1 : x5 = (nI 44) → RUN X C 24 Q 110 [.ref 1, .int x1, .int x2, .int x3, .int x4, .int x5] [] (mk D ct)) (k2 : ¬ x5 = (nI 44) → RUN X C 24 Q 107 [.ref 1, .int x1, .int x2, .int x3, .int x4, .int x5] [] (mk D ct)) : RUN X C 24 Q 100 [.ref 1, .int x1, .int x2, .int x3, .int x4, .int x5] [] (mk D ct) :=
  s_iload c24_100 rfl <|
  s_bipush c24_102 zcB_44 <|
  s_iceq c24_104 k1 k2
theorem b24_107 {x1 : Int32} {x2 : Int32} {x3 : Int32} {x4 : Int32} {x5 : Int32} (hq : Q (some (.int (-4))) (mk D ct)) : RUN X C 24 Q 107 [.ref 1, .int x1, .int x2, .int x3, .int x4, .int x5] [] (mk D ct) :=
  s_bipush c24_107 zcB_m4 <|
  s_iret c24_109 (xrtI rfl) hq
theorem b24_110 {x1 : Int32} {x2 : Int32} {x3 : Int32} {x4 : Int32} {x5 : Int32} (kk : RUN X C 24 Q 4 [.ref 1, .int x1, .int x2, .int (x3 + nI 1), .int x4, .int x5] [] (mk D ct)) : RUN X C 24 Q 110 [.ref 1, .int x1, .int x2, .int x3, .int x4, .int x5] [] (mk D ct) :=
  s_iinc c24_110 rfl True.intro zcI_1 <|
  s_goto c24_113 <|
  kk
theorem b24_116 {x1 : Int32} {x2 : Int32} {x3 : Int32} {l4 : Value} {l5 : Value} (hq : Q (some (.int (-4))) (mk D ct)) : RUN X C 24 Q 116 [.ref 1, .int x1, .int x2, .int x3, l4, l5] [] (mk D ct) :=
  s_bipush c24_116 zcB_m4 <|
  s_iret c24_118 (xrtI rfl) hq
-- ('PaintedTown$Script', 'letterAt', '(I)I')
theorem b25_0 {x1 : Int32} (k1 : x1 < (nI 0) → RUN X C 25 Q 28 [.ref 1, .int x1] [] (mk D ct)) (k2 : ¬ x1 < (nI 0) → RUN X C 25 Q 4 [.ref 1, .int x1] [] (mk D ct)) : RUN X C 25 Q 0 [.ref 1, .int x1] [] (mk D ct) :=
  s_iload_n c25_0 rfl <|
  s_iflt c25_1 k1 k2
theorem b25_4 {x1 : Int32} (k1 : (ct 1 1) ≤ x1 → RUN X C 25 Q 28 [.ref 1, .int x1] [] (mk D ct)) (k2 : ¬ (ct 1 1) ≤ x1 → RUN X C 25 Q 12 [.ref 1, .int x1] [] (mk D ct)) : RUN X C 25 Q 4 [.ref 1, .int x1] [] (mk D ct) :=
  s_iload_n c25_4 rfl <|
  s_aload_n c25_5 rfl <|
  s_getf (ct := ct) c25_6 rfl (by decide) rfl <|
  s_icge c25_9 k1 k2
theorem b25_12 {x1 : Int32} (k1 : (nI 200) ≤ x1 → RUN X C 25 Q 28 [.ref 1, .int x1] [] (mk D ct)) (k2 : ¬ (nI 200) ≤ x1 → RUN X C 25 Q 19 [.ref 1, .int x1] [] (mk D ct)) : RUN X C 25 Q 12 [.ref 1, .int x1] [] (mk D ct) :=
  s_iload_n c25_12 rfl <|
  s_sipush c25_13 zcS_200 <|
  s_icge c25_16 k1 k2
theorem b25_19 {x1 : Int32} {j24 : Nat} (hx24 : zix x1 j24 200) (hq : Q (some (.int (ct 2 j24))) (mk D ct)) : RUN X C 25 Q 19 [.ref 1, .int x1] [] (mk D ct) :=
  s_aload_n c25_19 rfl <|
  s_getf (ct := ct) c25_20 rfl (by decide) rfl <|
  s_iload_n c25_23 rfl <|
  s_cald (ct := ct) c25_24 rfl hx24 <|
  s_goto c25_25 <|
  s_iret c25_29 (xrtI rfl) hq
theorem b25_28 {x1 : Int32} (hq : Q (some (.int (nI 0))) (mk D ct)) : RUN X C 25 Q 28 [.ref 1, .int x1] [] (mk D ct) :=
  s_const c25_28 zcI_0 <|
  s_iret c25_29 (xrtI rfl) hq
-- ('PaintedTown$Script', 'isFigure', '(I)Z')
theorem b26_0 {x0 : Int32} (k1 : x0 < (nI 48) → RUN X C 26 Q 16 [.int x0] [] (mk D ct)) (k2 : ¬ x0 < (nI 48) → RUN X C 26 Q 6 [.int x0] [] (mk D ct)) : RUN X C 26 Q 0 [.int x0] [] (mk D ct) :=
  s_iload_n c26_0 rfl <|
  s_bipush c26_1 zcB_48 <|
  s_iclt c26_3 k1 k2
theorem b26_6 {x0 : Int32} (k1 : (nI 57) < x0 → RUN X C 26 Q 16 [.int x0] [] (mk D ct)) (k2 : ¬ (nI 57) < x0 → RUN X C 26 Q 12 [.int x0] [] (mk D ct)) : RUN X C 26 Q 6 [.int x0] [] (mk D ct) :=
  s_iload_n c26_6 rfl <|
  s_bipush c26_7 zcB_57 <|
  s_icgt c26_9 k1 k2
theorem b26_12 {x0 : Int32} (hq : Q (some (.int (nI 1))) (mk D ct)) : RUN X C 26 Q 12 [.int x0] [] (mk D ct) :=
  s_const c26_12 zcI_1 <|
  s_goto c26_13 <|
  s_iret c26_17 (xrtZ rfl (Or.inr rfl)) hq
theorem b26_16 {x0 : Int32} (hq : Q (some (.int (nI 0))) (mk D ct)) : RUN X C 26 Q 16 [.int x0] [] (mk D ct) :=
  s_const c26_16 zcI_0 <|
  s_iret c26_17 (xrtZ rfl (Or.inl rfl)) hq
-- ('PaintedTown$Script', 'take', '(I)Z')
theorem b27_0 {x1 : Int32} (k1 : x1 = (nI 118) → RUN X C 27 Q 6 [.ref 1, .int x1] [] (mk D ct)) (k2 : ¬ x1 = (nI 118) → RUN X C 27 Q 11 [.ref 1, .int x1] [] (mk D ct)) : RUN X C 27 Q 0 [.ref 1, .int x1] [] (mk D ct) :=
  s_iload_n c27_0 rfl <|
  s_bipush c27_1 zcB_118 <|
  s_icne c27_3 k1 k2
theorem b27_6 {x1 : Int32} {D1 : zD} {ct1 : zM} {v1 : Int32} (he : C 28 [.ref 1] (mk D ct) (some (.int v1)) (mk D1 ct1)) (kk : RUN X C 27 Q 10 [.ref 1, .int x1] [.int v1] (mk D1 ct1)) : RUN X C 27 Q 6 [.ref 1, .int x1] [] (mk D ct) :=
  s_aload_n c27_6 rfl <|
  s_callv (args := []) (r := []) c27_7 rfl rfl (Nat.le_of_ble_eq_true rfl) rfl ⟨rfl, by decide⟩ he kk
theorem b27_10 {x1 : Int32} {xs0 : Int32} (hq : Q (some (.int xs0)) (mk D ct)) (hz10 : xs0 = nI 0 ∨ xs0 = nI 1) : RUN X C 27 Q 10 [.ref 1, .int x1] [.int xs0] (mk D ct) :=
  s_iret c27_10 (xrtZ rfl hz10) hq
theorem b27_11 {x1 : Int32} (kk : xsw [238, 125, 238, 120, 238, 114, 238, 238, 200, 238, 238, 238, 108, 238, 238, 238, 238, 238, 238, 163] (x1.toInt - 101) fun t => RUN X C 27 Q t [.ref 1, .int x1] [] (mk D (u2 ct 1 6 (nI 1)))) : RUN X C 27 Q 11 [.ref 1, .int x1] [] (mk D ct) :=
  s_aload_n c27_11 rfl <|
  s_const c27_12 zcI_1 <|
  s_putf (ct := ct) c27_13 rfl (by decide) zint_1_6 (xfit_1_6 (Or.inr rfl)) <|
  s_iload_n c27_16 rfl <|
  s_switch c27_17 kk
theorem b27_108 {x1 : Int32} {D1 : zD} {ct1 : zM} {v1 : Int32} (he : C 29 [.ref 1, .int (nI 1)] (mk D ct) (some (.int v1)) (mk D1 ct1)) (kk : RUN X C 27 Q 113 [.ref 1, .int x1] [.int v1] (mk D1 ct1)) : RUN X C 27 Q 108 [.ref 1, .int x1] [] (mk D ct) :=
  s_aload_n c27_108 rfl <|
  s_const c27_109 zcI_1 <|
  s_callv (args := [.int (nI 1)]) (r := []) c27_110 rfl rfl (Nat.le_of_ble_eq_true rfl) rfl ⟨rfl, by decide⟩ he kk
theorem b27_113 {x1 : Int32} {xs0 : Int32} (hq : Q (some (.int xs0)) (mk D ct)) (hz113 : xs0 = nI 0 ∨ xs0 = nI 1) : RUN X C 27 Q 113 [.ref 1, .int x1] [.int xs0] (mk D ct) :=
  s_iret c27_113 (xrtZ rfl hz113) hq
theorem b27_114 {x1 : Int32} {D1 : zD} {ct1 : zM} {v1 : Int32} (he : C 29 [.ref 1, .int (nI 0)] (mk D ct) (some (.int v1)) (mk D1 ct1)) (kk : RUN X C 27 Q 119 [.ref 1, .int x1] [.int v1] (mk D1 ct1)) : RUN X C 27 Q 114 [.ref 1, .int x1] [] (mk D ct) :=
  s_aload_n c27_114 rfl <|
  s_const c27_115 zcI_0 <|
  s_callv (args := [.int (nI 0)]) (r := []) c27_116 rfl rfl (Nat.le_of_ble_eq_true rfl) rfl ⟨rfl, by decide⟩ he kk
theorem b27_119 {x1 : Int32} {xs0 : Int32} (hq : Q (some (.int xs0)) (mk D ct)) (hz119 : xs0 = nI 0 ∨ xs0 = nI 1) : RUN X C 27 Q 119 [.ref 1, .int x1] [.int xs0] (mk D ct) :=
  s_iret c27_119 (xrtZ rfl hz119) hq
theorem b27_120 {x1 : Int32} {D1 : zD} {ct1 : zM} {v1 : Int32} (he : C 32 [.ref 1] (mk D ct) (some (.int v1)) (mk D1 ct1)) (kk : RUN X C 27 Q 124 [.ref 1, .int x1] [.int v1] (mk D1 ct1)) : RUN X C 27 Q 120 [.ref 1, .int x1] [] (mk D ct) :=
  s_aload_n c27_120 rfl <|
  s_callv (args := []) (r := []) c27_121 rfl rfl (Nat.le_of_ble_eq_true rfl) rfl ⟨rfl, by decide⟩ he kk
theorem b27_124 {x1 : Int32} {xs0 : Int32} (hq : Q (some (.int xs0)) (mk D ct)) (hz124 : xs0 = nI 0 ∨ xs0 = nI 1) : RUN X C 27 Q 124 [.ref 1, .int x1] [.int xs0] (mk D ct) :=
  s_iret c27_124 (xrtZ rfl hz124) hq
theorem b27_125 {x1 : Int32} (k1 : (ct 1 5) = (nI 1) → RUN X C 27 Q 146 [.ref 1, .int x1] [] (mk D (u2 ct 6 4 (ct 10 0)))) (k2 : ¬ (ct 1 5) = (nI 1) → RUN X C 27 Q 161 [.ref 1, .int x1] [] (mk D (u2 ct 6 4 (ct 10 0)))) : RUN X C 27 Q 125 [.ref 1, .int x1] [] (mk D ct) :=
  s_aload_n c27_125 rfl <|
  s_getf (ct := ct) c27_126 rfl (by decide) rfl <|
  s_aload_n c27_129 rfl <|
  s_getf (ct := ct) c27_130 rfl (by decide) rfl <|
  s_const c27_133 zcI_0 <|
  s_iald (ct := ct) c27_134 rfl (zix_nI (by decide) (by decide)) <|
  s_putf (ct := ct) c27_135 rfl (by decide) zint_3_4 xfit_3_4 <|
  s_aload_n c27_138 rfl <|
  s_getf (ct := (u2 ct 6 4 (ct 10 0))) c27_139 rfl (by decide) rfl <|
  s_const c27_142 zcI_1 <|
  s_icne c27_143 k1 k2
theorem b27_146 {x1 : Int32} (k1 : (nI 99) < (ct 10 0) → RUN X C 27 Q 161 [.ref 1, .int x1] [] (mk D ct)) (k2 : ¬ (nI 99) < (ct 10 0) → RUN X C 27 Q 157 [.ref 1, .int x1] [] (mk D ct)) : RUN X C 27 Q 146 [.ref 1, .int x1] [] (mk D ct) :=
  s_aload_n c27_146 rfl <|
  s_getf (ct := ct) c27_147 rfl (by decide) rfl <|
  s_const c27_150 zcI_0 <|
  s_iald (ct := ct) c27_151 rfl (zix_nI (by decide) (by decide)) <|
  s_bipush c27_152 zcB_99 <|
  s_icgt c27_154 k1 k2
theorem b27_157 {x1 : Int32} (hq : Q (some (.int (nI 1))) (mk D ct)) : RUN X C 27 Q 157 [.ref 1, .int x1] [] (mk D ct) :=
  s_const c27_157 zcI_1 <|
  s_goto c27_158 <|
  s_iret c27_162 (xrtZ rfl (Or.inr rfl)) hq
theorem b27_161 {x1 : Int32} (hq : Q (some (.int (nI 0))) (mk D ct)) : RUN X C 27 Q 161 [.ref 1, .int x1] [] (mk D ct) :=
  s_const c27_161 zcI_0 <|
  s_iret c27_162 (xrtZ rfl (Or.inl rfl)) hq
theorem b27_163 {x1 : Int32} (k1 : (ct 1 5) = (nI 1) → RUN X C 27 Q 184 [.ref 1, .int x1] [] (mk D (u2 ct 6 3 (ct 10 0)))) (k2 : ¬ (ct 1 5) = (nI 1) → RUN X C 27 Q 198 [.ref 1, .int x1] [] (mk D (u2 ct 6 3 (ct 10 0)))) : RUN X C 27 Q 163 [.ref 1, .int x1] [] (mk D ct) :=
  s_aload_n c27_163 rfl <|
  s_getf (ct := ct) c27_164 rfl (by decide) rfl <|
  s_aload_n c27_167 rfl <|
  s_getf (ct := ct) c27_168 rfl (by decide) rfl <|
  s_const c27_171 zcI_0 <|
  s_iald (ct := ct) c27_172 rfl (zix_nI (by decide) (by decide)) <|
  s_putf (ct := ct) c27_173 rfl (by decide) zint_3_3 xfit_3_3 <|
  s_aload_n c27_176 rfl <|
  s_getf (ct := (u2 ct 6 3 (ct 10 0))) c27_177 rfl (by decide) rfl <|
  s_const c27_180 zcI_1 <|
  s_icne c27_181 k1 k2
theorem b27_184 {x1 : Int32} (k1 : (nI 4) ≤ (ct 10 0) → RUN X C 27 Q 198 [.ref 1, .int x1] [] (mk D ct)) (k2 : ¬ (nI 4) ≤ (ct 10 0) → RUN X C 27 Q 194 [.ref 1, .int x1] [] (mk D ct)) : RUN X C 27 Q 184 [.ref 1, .int x1] [] (mk D ct) :=
  s_aload_n c27_184 rfl <|
  s_getf (ct := ct) c27_185 rfl (by decide) rfl <|
  s_const c27_188 zcI_0 <|
  s_iald (ct := ct) c27_189 rfl (zix_nI (by decide) (by decide)) <|
  s_const c27_190 zcI_4 <|
  s_icge c27_191 k1 k2
theorem b27_194 {x1 : Int32} (hq : Q (some (.int (nI 1))) (mk D ct)) : RUN X C 27 Q 194 [.ref 1, .int x1] [] (mk D ct) :=
  s_const c27_194 zcI_1 <|
  s_goto c27_195 <|
  s_iret c27_199 (xrtZ rfl (Or.inr rfl)) hq
theorem b27_198 {x1 : Int32} (hq : Q (some (.int (nI 0))) (mk D ct)) : RUN X C 27 Q 198 [.ref 1, .int x1] [] (mk D ct) :=
  s_const c27_198 zcI_0 <|
  s_iret c27_199 (xrtZ rfl (Or.inl rfl)) hq
theorem b27_200 {x1 : Int32} (k1 : (ct 1 5) = (nI 1) → RUN X C 27 Q 221 [.ref 1, .int x1] [] (mk D (u2 ct 3 2 (ct 10 0)))) (k2 : ¬ (ct 1 5) = (nI 1) → RUN X C 27 Q 236 [.ref 1, .int x1] [] (mk D (u2 ct 3 2 (ct 10 0)))) : RUN X C 27 Q 200 [.ref 1, .int x1] [] (mk D ct) :=
  s_aload_n c27_200 rfl <|
  s_getf (ct := ct) c27_201 rfl (by decide) rfl <|
  s_aload_n c27_204 rfl <|
  s_getf (ct := ct) c27_205 rfl (by decide) rfl <|
  s_const c27_208 zcI_0 <|
  s_iald (ct := ct) c27_209 rfl (zix_nI (by decide) (by decide)) <|
  s_putf (ct := ct) c27_210 rfl (by decide) zint_2_2 xfit_2_2 <|
  s_aload_n c27_213 rfl <|
  s_getf (ct := (u2 ct 3 2 (ct 10 0))) c27_214 rfl (by decide) rfl <|
  s_const c27_217 zcI_1 <|
  s_icne c27_218 k1 k2
theorem b27_221 {x1 : Int32} (k1 : (nI 99) < (ct 10 0) → RUN X C 27 Q 236 [.ref 1, .int x1] [] (mk D ct)) (k2 : ¬ (nI 99) < (ct 10 0) → RUN X C 27 Q 232 [.ref 1, .int x1] [] (mk D ct)) : RUN X C 27 Q 221 [.ref 1, .int x1] [] (mk D ct) :=
  s_aload_n c27_221 rfl <|
  s_getf (ct := ct) c27_222 rfl (by decide) rfl <|
  s_const c27_225 zcI_0 <|
  s_iald (ct := ct) c27_226 rfl (zix_nI (by decide) (by decide)) <|
  s_bipush c27_227 zcB_99 <|
  s_icgt c27_229 k1 k2
theorem b27_232 {x1 : Int32} (hq : Q (some (.int (nI 1))) (mk D ct)) : RUN X C 27 Q 232 [.ref 1, .int x1] [] (mk D ct) :=
  s_const c27_232 zcI_1 <|
  s_goto c27_233 <|
  s_iret c27_237 (xrtZ rfl (Or.inr rfl)) hq
theorem b27_236 {x1 : Int32} (hq : Q (some (.int (nI 0))) (mk D ct)) : RUN X C 27 Q 236 [.ref 1, .int x1] [] (mk D ct) :=
  s_const c27_236 zcI_0 <|
  s_iret c27_237 (xrtZ rfl (Or.inl rfl)) hq
theorem b27_238 {x1 : Int32} (hq : Q (some (.int (nI 0))) (mk D ct)) : RUN X C 27 Q 238 [.ref 1, .int x1] [] (mk D ct) :=
  s_const c27_238 zcI_0 <|
  s_iret c27_239 (xrtZ rfl (Or.inl rfl)) hq
-- ('PaintedTown$Script', 'takeView', '()Z')
theorem b28_0 {l1 : Value} {l2 : Value} (k1 : (ct 1 6) = (nI 0) → RUN X C 28 Q 7 [.ref 1, l1, l2] [] (mk D ct)) (k2 : ¬ (ct 1 6) = (nI 0) → RUN X C 28 Q 15 [.ref 1, l1, l2] [] (mk D ct)) : RUN X C 28 Q 0 [.ref 1, l1, l2] [] (mk D ct) :=
  s_aload_n c28_0 rfl <|
  s_getf (ct := ct) c28_1 rfl (by decide) rfl <|
  s_ifne c28_4 k1 k2
theorem b28_7 {l1 : Value} {l2 : Value} (k1 : (ct 1 5) = (nI 2) → RUN X C 28 Q 17 [.ref 1, l1, l2] [] (mk D ct)) (k2 : ¬ (ct 1 5) = (nI 2) → RUN X C 28 Q 15 [.ref 1, l1, l2] [] (mk D ct)) : RUN X C 28 Q 7 [.ref 1, l1, l2] [] (mk D ct) :=
  s_aload_n c28_7 rfl <|
  s_getf (ct := ct) c28_8 rfl (by decide) rfl <|
  s_const c28_11 zcI_2 <|
  s_iceq c28_12 k1 k2
theorem b28_15 {l1 : Value} {l2 : Value} (hq : Q (some (.int (nI 0))) (mk D ct)) : RUN X C 28 Q 15 [.ref 1, l1, l2] [] (mk D ct) :=
  s_const c28_15 zcI_0 <|
  s_iret c28_16 (xrtZ rfl (Or.inl rfl)) hq
theorem b28_17 {l1 : Value} {l2 : Value} (k1 : (ct 10 0) < (nI 2) → RUN X C 28 Q 42 [.ref 1, .int (ct 10 0), .int (ct 10 1)] [] (mk D ct)) (k2 : ¬ (ct 10 0) < (nI 2) → RUN X C 28 Q 36 [.ref 1, .int (ct 10 0), .int (ct 10 1)] [] (mk D ct)) : RUN X C 28 Q 17 [.ref 1, l1, l2] [] (mk D ct) :=
  s_aload_n c28_17 rfl <|
  s_getf (ct := ct) c28_18 rfl (by decide) rfl <|
  s_const c28_21 zcI_0 <|
  s_iald (ct := ct) c28_22 rfl (zix_nI (by decide) (by decide)) <|
  s_istore_n c28_23 (Nat.le_of_ble_eq_true rfl) True.intro <|
  s_aload_n c28_24 rfl <|
  s_getf (ct := ct) c28_25 rfl (by decide) rfl <|
  s_const c28_28 zcI_1 <|
  s_iald (ct := ct) c28_29 rfl (zix_nI (by decide) (by decide)) <|
  s_istore_n c28_30 (Nat.le_of_ble_eq_true rfl) True.intro <|
  s_iload_n c28_31 rfl <|
  s_const c28_32 zcI_2 <|
  s_iclt c28_33 k1 k2
theorem b28_36 {x1 : Int32} {x2 : Int32} (k1 : x1 ≤ (nI 6) → RUN X C 28 Q 44 [.ref 1, .int x1, .int x2] [] (mk D ct)) (k2 : ¬ x1 ≤ (nI 6) → RUN X C 28 Q 42 [.ref 1, .int x1, .int x2] [] (mk D ct)) : RUN X C 28 Q 36 [.ref 1, .int x1, .int x2] [] (mk D ct) :=
  s_iload_n c28_36 rfl <|
  s_bipush c28_37 zcB_6 <|
  s_icle c28_39 k1 k2
theorem b28_42 {x1 : Int32} {x2 : Int32} (hq : Q (some (.int (nI 0))) (mk D ct)) : RUN X C 28 Q 42 [.ref 1, .int x1, .int x2] [] (mk D ct) :=
  s_const c28_42 zcI_0 <|
  s_iret c28_43 (xrtZ rfl (Or.inl rfl)) hq
theorem b28_44 {x1 : Int32} {x2 : Int32} (k1 : x2 < (nI 2) → RUN X C 28 Q 55 [.ref 1, .int x1, .int x2] [] (mk D ct)) (k2 : ¬ x2 < (nI 2) → RUN X C 28 Q 49 [.ref 1, .int x1, .int x2] [] (mk D ct)) : RUN X C 28 Q 44 [.ref 1, .int x1, .int x2] [] (mk D ct) :=
  s_iload_n c28_44 rfl <|
  s_const c28_45 zcI_2 <|
  s_iclt c28_46 k1 k2
theorem b28_49 {x1 : Int32} {x2 : Int32} (k1 : x2 ≤ (nI 6) → RUN X C 28 Q 57 [.ref 1, .int x1, .int x2] [] (mk D ct)) (k2 : ¬ x2 ≤ (nI 6) → RUN X C 28 Q 55 [.ref 1, .int x1, .int x2] [] (mk D ct)) : RUN X C 28 Q 49 [.ref 1, .int x1, .int x2] [] (mk D ct) :=
  s_iload_n c28_49 rfl <|
  s_bipush c28_50 zcB_6 <|
  s_icle c28_52 k1 k2
theorem b28_55 {x1 : Int32} {x2 : Int32} (hq : Q (some (.int (nI 0))) (mk D ct)) : RUN X C 28 Q 55 [.ref 1, .int x1, .int x2] [] (mk D ct) :=
  s_const c28_55 zcI_0 <|
  s_iret c28_56 (xrtZ rfl (Or.inl rfl)) hq
theorem b28_57 {x1 : Int32} {x2 : Int32} (hq : Q (some (.int (nI 1))) (mk D (u2 (u2 ct 3 0 x1) 3 1 x2))) : RUN X C 28 Q 57 [.ref 1, .int x1, .int x2] [] (mk D ct) :=
  s_aload_n c28_57 rfl <|
  s_getf (ct := ct) c28_58 rfl (by decide) rfl <|
  s_iload_n c28_61 rfl <|
  s_putf (ct := ct) c28_62 rfl (by decide) zint_2_0 xfit_2_0 <|
  s_aload_n c28_65 rfl <|
  s_getf (ct := (u2 ct 3 0 x1)) c28_66 rfl (by decide) rfl <|
  s_iload_n c28_69 rfl <|
  s_putf (ct := (u2 ct 3 0 x1)) c28_70 rfl (by decide) zint_2_1 xfit_2_1 <|
  s_const c28_73 zcI_1 <|
  s_iret c28_74 (xrtZ rfl (Or.inr rfl)) hq
-- ('PaintedTown$Script', 'takeThing', '(Z)Z')
theorem b29_0 {x1 : Int32} {l2 : Value} {l3 : Value} (k1 : (ct 1 5) = (nI 2) → RUN X C 29 Q 22 [.ref 1, .int x1, .int (ct 10 0), .int (ct 10 1)] [] (mk D ct)) (k2 : ¬ (ct 1 5) = (nI 2) → RUN X C 29 Q 39 [.ref 1, .int x1, .int (ct 10 0), .int (ct 10 1)] [] (mk D ct)) : RUN X C 29 Q 0 [.ref 1, .int x1, l2, l3] [] (mk D ct) :=
  s_aload_n c29_0 rfl <|
  s_getf (ct := ct) c29_1 rfl (by decide) rfl <|
  s_const c29_4 zcI_0 <|
  s_iald (ct := ct) c29_5 rfl (zix_nI (by decide) (by decide)) <|
  s_istore_n c29_6 (Nat.le_of_ble_eq_true rfl) True.intro <|
  s_aload_n c29_7 rfl <|
  s_getf (ct := ct) c29_8 rfl (by decide) rfl <|
  s_const c29_11 zcI_1 <|
  s_iald (ct := ct) c29_12 rfl (zix_nI (by decide) (by decide)) <|
  s_istore_n c29_13 (Nat.le_of_ble_eq_true rfl) True.intro <|
  s_aload_n c29_14 rfl <|
  s_getf (ct := ct) c29_15 rfl (by decide) rfl <|
  s_const c29_18 zcI_2 <|
  s_icne c29_19 k1 k2
theorem b29_22 {x1 : Int32} {x2 : Int32} {x3 : Int32} {D1 : zD} {ct1 : zM} {v1 : Int32} (he : C 30 [.ref 3, .int x2] (mk D ct) (some (.int v1)) (mk D1 ct1)) (kk : RUN X C 29 Q 30 [.ref 1, .int x1, .int x2, .int x3] [.int v1] (mk D1 ct1)) : RUN X C 29 Q 22 [.ref 1, .int x1, .int x2, .int x3] [] (mk D ct) :=
  s_aload_n c29_22 rfl <|
  s_getf (ct := ct) c29_23 rfl (by decide) rfl <|
  s_iload_n c29_26 rfl <|
  s_callv (args := [.int x2]) (r := []) c29_27 rfl rfl (Nat.le_of_ble_eq_true rfl) rfl ⟨rfl, by decide⟩ he kk
theorem b29_30 {x1 : Int32} {x2 : Int32} {x3 : Int32} {xs0 : Int32} (k1 : xs0 = (nI 0) → RUN X C 29 Q 39 [.ref 1, .int x1, .int x2, .int x3] [] (mk D ct)) (k2 : ¬ xs0 = (nI 0) → RUN X C 29 Q 33 [.ref 1, .int x1, .int x2, .int x3] [] (mk D ct)) : RUN X C 29 Q 30 [.ref 1, .int x1, .int x2, .int x3] [.int xs0] (mk D ct) :=
  s_ifeq c29_30 k1 k2
theorem b29_33 {x1 : Int32} {x2 : Int32} {x3 : Int32} (k1 : x3 < (nI 8) → RUN X C 29 Q 41 [.ref 1, .int x1, .int x2, .int x3] [] (mk D ct)) (k2 : ¬ x3 < (nI 8) → RUN X C 29 Q 39 [.ref 1, .int x1, .int x2, .int x3] [] (mk D ct)) : RUN X C 29 Q 33 [.ref 1, .int x1, .int x2, .int x3] [] (mk D ct) :=
  s_iload_n c29_33 rfl <|
  s_bipush c29_34 zcB_8 <|
  s_iclt c29_36 k1 k2
theorem b29_39 {x1 : Int32} {x2 : Int32} {x3 : Int32} (hq : Q (some (.int (nI 0))) (mk D ct)) : RUN X C 29 Q 39 [.ref 1, .int x1, .int x2, .int x3] [] (mk D ct) :=
  s_const c29_39 zcI_0 <|
  s_iret c29_40 (xrtZ rfl (Or.inl rfl)) hq
theorem b29_41 {x1 : Int32} {x2 : Int32} {x3 : Int32} (k1 : x1 = (nI 0) → RUN X C 29 Q 55 [.ref 1, .int x1, .int x2, .int x3] [] (mk D ct)) (k2 : ¬ x1 = (nI 0) → RUN X C 29 Q 45 [.ref 1, .int x1, .int x2, .int x3] [] (mk D ct)) : RUN X C 29 Q 41 [.ref 1, .int x1, .int x2, .int x3] [] (mk D ct) :=
  s_iload_n c29_41 rfl <|
  s_ifeq c29_42 k1 k2
theorem b29_45 {x1 : Int32} {x2 : Int32} {x3 : Int32} {D1 : zD} {ct1 : zM} {j54 : Nat} (hx54 : zix x2 j54 36) (he : C 31 [.ref 6, .int x2, .int x3, .int (nI 0)] (mk D (u2 ct 4 j54 x3)) none (mk D1 ct1)) (kk : RUN X C 29 Q 65 [.ref 1, .int x1, .int x2, .int x3] [] (mk D1 ct1)) : RUN X C 29 Q 45 [.ref 1, .int x1, .int x2, .int x3] [] (mk D ct) :=
  s_aload_n c29_45 rfl <|
  s_getf (ct := ct) c29_46 rfl (by decide) rfl <|
  s_getf (ct := ct) c29_49 rfl (by decide) rfl <|
  s_iload_n c29_52 rfl <|
  s_iload_n c29_53 rfl <|
  s_iast (ct := ct) c29_54 rfl hx54 <|
  s_aload_n c29_55 rfl <|
  s_getf (ct := (u2 ct 4 j54 x3)) c29_56 rfl (by decide) rfl <|
  s_iload_n c29_59 rfl <|
  s_iload_n c29_60 rfl <|
  s_const c29_61 zcI_0 <|
  s_callv (args := [.int x2, .int x3, .int (nI 0)]) (r := []) c29_62 rfl rfl (Nat.le_of_ble_eq_true rfl) rfl ⟨rfl, by decide⟩ he kk
theorem b29_55 {x1 : Int32} {x2 : Int32} {x3 : Int32} {D1 : zD} {ct1 : zM} (he : C 31 [.ref 6, .int x2, .int x3, .int (nI 0)] (mk D ct) none (mk D1 ct1)) (kk : RUN X C 29 Q 65 [.ref 1, .int x1, .int x2, .int x3] [] (mk D1 ct1)) : RUN X C 29 Q 55 [.ref 1, .int x1, .int x2, .int x3] [] (mk D ct) :=
  s_aload_n c29_55 rfl <|
  s_getf (ct := ct) c29_56 rfl (by decide) rfl <|
  s_iload_n c29_59 rfl <|
  s_iload_n c29_60 rfl <|
  s_const c29_61 zcI_0 <|
  s_callv (args := [.int x2, .int x3, .int (nI 0)]) (r := []) c29_62 rfl rfl (Nat.le_of_ble_eq_true rfl) rfl ⟨rfl, by decide⟩ he kk
theorem b29_65 {x1 : Int32} {x2 : Int32} {x3 : Int32} (hq : Q (some (.int (nI 1))) (mk D ct)) : RUN X C 29 Q 65 [.ref 1, .int x1, .int x2, .int x3] [] (mk D ct) :=
  s_const c29_65 zcI_1 <|
  s_iret c29_66 (xrtZ rfl (Or.inr rfl)) hq
-- ('PaintedTown$Painting', 'has', '(I)Z')
theorem b30_0 {a0 : Nat} (ha0 : zsh D a0 = (2, 0)) {x1 : Int32} (k1 : x1 < (nI 0) → RUN X C 30 Q 27 [.ref a0, .int x1] [] (mk D ct)) (k2 : ¬ x1 < (nI 0) → RUN X C 30 Q 4 [.ref a0, .int x1] [] (mk D ct)) : RUN X C 30 Q 0 [.ref a0, .int x1] [] (mk D ct) :=
  s_iload_n c30_0 rfl <|
  s_iflt c30_1 k1 k2
theorem b30_4 {a0 : Nat} (ha0 : zsh D a0 = (2, 0)) {x1 : Int32} (k1 : ((ct a0 0) * (ct a0 1)) ≤ x1 → RUN X C 30 Q 27 [.ref a0, .int x1] [] (mk D ct)) (k2 : ¬ ((ct a0 0) * (ct a0 1)) ≤ x1 → RUN X C 30 Q 17 [.ref a0, .int x1] [] (mk D ct)) : RUN X C 30 Q 4 [.ref a0, .int x1] [] (mk D ct) :=
  s_iload_n c30_4 rfl <|
  s_aload_n c30_5 rfl <|
  s_getf (ct := ct) c30_6 ha0 (by decide) rfl <|
  s_aload_n c30_9 rfl <|
  s_getf (ct := ct) c30_10 ha0 (by decide) rfl <|
  s_imul c30_13 <|
  s_icge c30_14 k1 k2
theorem b30_17 {a0 : Nat} (ha0 : zsh D a0 = (2, 0)) {x1 : Int32} (k1 : (nI 36) ≤ x1 → RUN X C 30 Q 27 [.ref a0, .int x1] [] (mk D ct)) (k2 : ¬ (nI 36) ≤ x1 → RUN X C 30 Q 23 [.ref a0, .int x1] [] (mk D ct)) : RUN X C 30 Q 17 [.ref a0, .int x1] [] (mk D ct) :=
  s_iload_n c30_17 rfl <|
  s_bipush c30_18 zcB_36 <|
  s_icge c30_20 k1 k2
theorem b30_23 {a0 : Nat} (ha0 : zsh D a0 = (2, 0)) {x1 : Int32} (hq : Q (some (.int (nI 1))) (mk D ct)) : RUN X C 30 Q 23 [.ref a0, .int x1] [] (mk D ct) :=
  s_const c30_23 zcI_1 <|
  s_goto c30_24 <|
  s_iret c30_28 (xrtZ rfl (Or.inr rfl)) hq
theorem b30_27 {a0 : Nat} (ha0 : zsh D a0 = (2, 0)) {x1 : Int32} (hq : Q (some (.int (nI 0))) (mk D ct)) : RUN X C 30 Q 27 [.ref a0, .int x1] [] (mk D ct) :=
  s_const c30_27 zcI_0 <|
  s_iret c30_28 (xrtZ rfl (Or.inl rfl)) hq
-- ('PaintedTown$Town', 'place', '(III)V')
theorem b31_0 {a0 : Nat} (ha0 : zsh D a0 = (3, 0)) {x1 : Int32} {x2 : Int32} {x3 : Int32} (k1 : x1 < (nI 0) → RUN X C 31 Q 10 [.ref a0, .int x1, .int x2, .int x3] [] (mk D ct)) (k2 : ¬ x1 < (nI 0) → RUN X C 31 Q 4 [.ref a0, .int x1, .int x2, .int x3] [] (mk D ct)) : RUN X C 31 Q 0 [.ref a0, .int x1, .int x2, .int x3] [] (mk D ct) :=
  s_iload_n c31_0 rfl <|
  s_iflt c31_1 k1 k2
theorem b31_4 {a0 : Nat} (ha0 : zsh D a0 = (3, 0)) {x1 : Int32} {x2 : Int32} {x3 : Int32} (k1 : x1 < (nI 36) → RUN X C 31 Q 11 [.ref a0, .int x1, .int x2, .int x3] [] (mk D ct)) (k2 : ¬ x1 < (nI 36) → RUN X C 31 Q 10 [.ref a0, .int x1, .int x2, .int x3] [] (mk D ct)) : RUN X C 31 Q 4 [.ref a0, .int x1, .int x2, .int x3] [] (mk D ct) :=
  s_iload_n c31_4 rfl <|
  s_bipush c31_5 zcB_36 <|
  s_iclt c31_7 k1 k2
theorem b31_10 {a0 : Nat} (ha0 : zsh D a0 = (3, 0)) {x1 : Int32} {x2 : Int32} {x3 : Int32} (hq : Q none (mk D ct)) : RUN X C 31 Q 10 [.ref a0, .int x1, .int x2, .int x3] [] (mk D ct) :=
  s_ret c31_10 rfl hq
theorem b31_11 {a0 : Nat} (ha0 : zsh D a0 = (3, 0)) {x1 : Int32} {x2 : Int32} {x3 : Int32} {j17 : Nat} (hx17 : zix x1 j17 36) {j24 : Nat} (hx24 : zix x1 j24 36) (hq : Q none (mk D (u2 (u2 ct (a0 + 1) j17 x2) (a0 + 2) j24 x3))) : RUN X C 31 Q 11 [.ref a0, .int x1, .int x2, .int x3] [] (mk D ct) :=
  s_aload_n c31_11 rfl <|
  s_getf (ct := ct) c31_12 ha0 (by decide) rfl <|
  s_iload_n c31_15 rfl <|
  s_iload_n c31_16 rfl <|
  s_iast (ct := ct) c31_17 (zsh_t1 ha0) hx17 <|
  s_aload_n c31_18 rfl <|
  s_getf (ct := (u2 ct (a0 + 1) j17 x2)) c31_19 ha0 (by decide) rfl <|
  s_iload_n c31_22 rfl <|
  s_iload_n c31_23 rfl <|
  s_iast (ct := (u2 ct (a0 + 1) j17 x2)) c31_24 (zsh_t2 ha0) hx24 <|
  s_ret c31_25 rfl hq
-- ('PaintedTown$Script', 'takeDays', '()Z')
theorem b32_0 {l1 : Value} {l2 : Value} (k1 : (ct 1 5) = (nI 4) → RUN X C 32 Q 10 [.ref 1, l1, l2] [] (mk D ct)) (k2 : ¬ (ct 1 5) = (nI 4) → RUN X C 32 Q 8 [.ref 1, l1, l2] [] (mk D ct)) : RUN X C 32 Q 0 [.ref 1, l1, l2] [] (mk D ct) :=
  s_aload_n c32_0 rfl <|
  s_getf (ct := ct) c32_1 rfl (by decide) rfl <|
  s_const c32_4 zcI_4 <|
  s_iceq c32_5 k1 k2
theorem b32_8 {l1 : Value} {l2 : Value} (hq : Q (some (.int (nI 0))) (mk D ct)) : RUN X C 32 Q 8 [.ref 1, l1, l2] [] (mk D ct) :=
  s_const c32_8 zcI_0 <|
  s_iret c32_9 (xrtZ rfl (Or.inl rfl)) hq
theorem b32_10 {l1 : Value} {l2 : Value} (kk : RUN X C 32 Q 14 [.ref 1, .int (nI 0), .int (nI 0)] [] (mk D ct)) : RUN X C 32 Q 10 [.ref 1, l1, l2] [] (mk D ct) :=
  s_const c32_10 zcI_0 <|
  s_istore_n c32_11 (Nat.le_of_ble_eq_true rfl) True.intro <|
  s_const c32_12 zcI_0 <|
  s_istore_n c32_13 (Nat.le_of_ble_eq_true rfl) True.intro <|
  kk
theorem b32_14 {x1 : Int32} {x2 : Int32} (k1 : (nI 4) ≤ x2 → RUN X C 32 Q 39 [.ref 1, .int x1, .int x2] [] (mk D ct)) (k2 : ¬ (nI 4) ≤ x2 → RUN X C 32 Q 19 [.ref 1, .int x1, .int x2] [] (mk D ct)) : RUN X C 32 Q 14 [.ref 1, .int x1, .int x2] [] (mk D ct) :=
  s_iload_n c32_14 rfl <|
  s_const c32_15 zcI_4 <|
  s_icge c32_16 k1 k2
theorem b32_19 {x1 : Int32} {x2 : Int32} (k1 : (nI 4) ≤ x2 → RUN X C 32 Q 39 [.ref 1, .int x1, .int x2] [] (mk D ct)) (k2 : ¬ (nI 4) ≤ x2 → RUN X C 32 Q 24 [.ref 1, .int x1, .int x2] [] (mk D ct)) : RUN X C 32 Q 19 [.ref 1, .int x1, .int x2] [] (mk D ct) :=
  s_iload_n c32_19 rfl <|
  s_const c32_20 zcI_4 <|
  s_icge c32_21 k1 k2
theorem b32_24 {x1 : Int32} {x2 : Int32} {j30 : Nat} (hx30 : zix x2 j30 4) (kk : RUN X C 32 Q 14 [.ref 1, .int (x1 + (ct 10 j30)), .int (x2 + nI 1)] [] (mk D ct)) : RUN X C 32 Q 24 [.ref 1, .int x1, .int x2] [] (mk D ct) :=
  s_iload_n c32_24 rfl <|
  s_aload_n c32_25 rfl <|
  s_getf (ct := ct) c32_26 rfl (by decide) rfl <|
  s_iload_n c32_29 rfl <|
  s_iald (ct := ct) c32_30 rfl hx30 <|
  s_iadd c32_31 <|
  s_istore_n c32_32 (Nat.le_of_ble_eq_true rfl) True.intro <|
  s_iinc c32_33 rfl True.intro zcI_1 <|
  s_goto c32_36 <|
  kk
theorem b32_39 {x1 : Int32} {x2 : Int32} (k1 : x1 = (nI 10) → RUN X C 32 Q 47 [.ref 1, .int x1, .int x2] [] (mk D ct)) (k2 : ¬ x1 = (nI 10) → RUN X C 32 Q 45 [.ref 1, .int x1, .int x2] [] (mk D ct)) : RUN X C 32 Q 39 [.ref 1, .int x1, .int x2] [] (mk D ct) :=
  s_iload_n c32_39 rfl <|
  s_bipush c32_40 zcB_10 <|
  s_iceq c32_42 k1 k2
theorem b32_45 {x1 : Int32} {x2 : Int32} (hq : Q (some (.int (nI 0))) (mk D ct)) : RUN X C 32 Q 45 [.ref 1, .int x1, .int x2] [] (mk D ct) :=
  s_const c32_45 zcI_0 <|
  s_iret c32_46 (xrtZ rfl (Or.inl rfl)) hq
theorem b32_47 {x1 : Int32} {x2 : Int32} (kk : RUN X C 32 Q 49 [.ref 1, .int x1, .int (nI 0)] [] (mk D ct)) : RUN X C 32 Q 47 [.ref 1, .int x1, .int x2] [] (mk D ct) :=
  s_const c32_47 zcI_0 <|
  s_istore_n c32_48 (Nat.le_of_ble_eq_true rfl) True.intro <|
  kk
theorem b32_49 {x1 : Int32} {x2 : Int32} (k1 : (nI 4) ≤ x2 → RUN X C 32 Q 80 [.ref 1, .int x1, .int x2] [] (mk D ct)) (k2 : ¬ (nI 4) ≤ x2 → RUN X C 32 Q 54 [.ref 1, .int x1, .int x2] [] (mk D ct)) : RUN X C 32 Q 49 [.ref 1, .int x1, .int x2] [] (mk D ct) :=
  s_iload_n c32_49 rfl <|
  s_const c32_50 zcI_4 <|
  s_icge c32_51 k1 k2
theorem b32_54 {x1 : Int32} {x2 : Int32} (k1 : (nI 4) ≤ x2 → RUN X C 32 Q 80 [.ref 1, .int x1, .int x2] [] (mk D ct)) (k2 : ¬ (nI 4) ≤ x2 → RUN X C 32 Q 59 [.ref 1, .int x1, .int x2] [] (mk D ct)) : RUN X C 32 Q 54 [.ref 1, .int x1, .int x2] [] (mk D ct) :=
  s_iload_n c32_54 rfl <|
  s_const c32_55 zcI_4 <|
  s_icge c32_56 k1 k2
theorem b32_59 {x1 : Int32} {x2 : Int32} {j72 : Nat} (hx72 : zix x2 j72 4) {j73 : Nat} (hx73 : zix x2 j73 4) (kk : RUN X C 32 Q 49 [.ref 1, .int x1, .int (x2 + nI 1)] [] (mk D (u2 ct 5 j73 (ct 10 j72)))) : RUN X C 32 Q 59 [.ref 1, .int x1, .int x2] [] (mk D ct) :=
  s_aload_n c32_59 rfl <|
  s_getf (ct := ct) c32_60 rfl (by decide) rfl <|
  s_getf (ct := ct) c32_63 rfl (by decide) rfl <|
  s_iload_n c32_66 rfl <|
  s_aload_n c32_67 rfl <|
  s_getf (ct := ct) c32_68 rfl (by decide) rfl <|
  s_iload_n c32_71 rfl <|
  s_iald (ct := ct) c32_72 rfl hx72 <|
  s_iast (ct := ct) c32_73 rfl hx73 <|
  s_iinc c32_74 rfl True.intro zcI_1 <|
  s_goto c32_77 <|
  kk
theorem b32_80 {x1 : Int32} {x2 : Int32} (hq : Q (some (.int (nI 1))) (mk D ct)) : RUN X C 32 Q 80 [.ref 1, .int x1, .int x2] [] (mk D ct) :=
  s_const c32_80 zcI_1 <|
  s_iret c32_81 (xrtZ rfl (Or.inr rfl)) hq
-- ('PaintedTown$Painting', 'become', '(LPaintedTown$Painting;)V')
theorem b33_0 {a0 : Nat} (ha0 : zsh D a0 = (2, 0)) {a1 : Nat} (ha1 : zsh D a1 = (2, 0)) {l2 : Value} (kk : RUN X C 33 Q 26 [.ref a0, .ref a1, .int (nI 0)] [] (mk D (u2 (u2 (u2 ct a0 0 (ct a1 0)) a0 1 ((u2 ct a0 0 (ct a1 0)) a1 1)) a0 2 ((u2 (u2 ct a0 0 (ct a1 0)) a0 1 ((u2 ct a0 0 (ct a1 0)) a1 1)) a1 2)))) : RUN X C 33 Q 0 [.ref a0, .ref a1, l2] [] (mk D ct) :=
  s_aload_n c33_0 rfl <|
  s_aload_n c33_1 rfl <|
  s_getf (ct := ct) c33_2 ha1 (by decide) rfl <|
  s_putf (ct := ct) c33_5 ha0 (by decide) zint_2_0 xfit_2_0 <|
  s_aload_n c33_8 rfl <|
  s_aload_n c33_9 rfl <|
  s_getf (ct := (u2 ct a0 0 (ct a1 0))) c33_10 ha1 (by decide) rfl <|
  s_putf (ct := (u2 ct a0 0 (ct a1 0))) c33_13 ha0 (by decide) zint_2_1 xfit_2_1 <|
  s_aload_n c33_16 rfl <|
  s_aload_n c33_17 rfl <|
  s_getf (ct := (u2 (u2 ct a0 0 (ct a1 0)) a0 1 ((u2 ct a0 0 (ct a1 0)) a1 1))) c33_18 ha1 (by decide) rfl <|
  s_putf (ct := (u2 (u2 ct a0 0 (ct a1 0)) a0 1 ((u2 ct a0 0 (ct a1 0)) a1 1))) c33_21 ha0 (by decide) zint_2_2 xfit_2_2 <|
  s_const c33_24 zcI_0 <|
  s_istore_n c33_25 (Nat.le_of_ble_eq_true rfl) True.intro <|
  kk
theorem b33_26 {a0 : Nat} (ha0 : zsh D a0 = (2, 0)) {a1 : Nat} (ha1 : zsh D a1 = (2, 0)) {x2 : Int32} (k1 : (nI 36) ≤ x2 → RUN X C 33 Q 50 [.ref a0, .ref a1, .int x2] [] (mk D ct)) (k2 : ¬ (nI 36) ≤ x2 → RUN X C 33 Q 32 [.ref a0, .ref a1, .int x2] [] (mk D ct)) : RUN X C 33 Q 26 [.ref a0, .ref a1, .int x2] [] (mk D ct) :=
  s_iload_n c33_26 rfl <|
  s_bipush c33_27 zcB_36 <|
  s_icge c33_29 k1 k2
theorem b33_32 {a0 : Nat} (ha0 : zsh D a0 = (2, 0)) {a1 : Nat} (ha1 : zsh D a1 = (2, 0)) {x2 : Int32} {j42 : Nat} (hx42 : zix x2 j42 36) {j43 : Nat} (hx43 : zix x2 j43 36) (kk : RUN X C 33 Q 26 [.ref a0, .ref a1, .int (x2 + nI 1)] [] (mk D (u2 ct (a0 + 1) j43 (ct (a1 + 1) j42)))) : RUN X C 33 Q 32 [.ref a0, .ref a1, .int x2] [] (mk D ct) :=
  s_aload_n c33_32 rfl <|
  s_getf (ct := ct) c33_33 ha0 (by decide) rfl <|
  s_iload_n c33_36 rfl <|
  s_aload_n c33_37 rfl <|
  s_getf (ct := ct) c33_38 ha1 (by decide) rfl <|
  s_iload_n c33_41 rfl <|
  s_iald (ct := ct) c33_42 (zsh_p1 ha1).1 hx42 <|
  s_iast (ct := ct) c33_43 (zsh_p1 ha0).1 hx43 <|
  s_iinc c33_44 rfl True.intro zcI_1 <|
  s_goto c33_47 <|
  kk
theorem b33_50 {a0 : Nat} (ha0 : zsh D a0 = (2, 0)) {a1 : Nat} (ha1 : zsh D a1 = (2, 0)) {x2 : Int32} (kk : RUN X C 33 Q 52 [.ref a0, .ref a1, .int (nI 0)] [] (mk D ct)) : RUN X C 33 Q 50 [.ref a0, .ref a1, .int x2] [] (mk D ct) :=
  s_const c33_50 zcI_0 <|
  s_istore_n c33_51 (Nat.le_of_ble_eq_true rfl) True.intro <|
  kk
theorem b33_52 {a0 : Nat} (ha0 : zsh D a0 = (2, 0)) {a1 : Nat} (ha1 : zsh D a1 = (2, 0)) {x2 : Int32} (k1 : (nI 4) ≤ x2 → RUN X C 33 Q 75 [.ref a0, .ref a1, .int x2] [] (mk D ct)) (k2 : ¬ (nI 4) ≤ x2 → RUN X C 33 Q 57 [.ref a0, .ref a1, .int x2] [] (mk D ct)) : RUN X C 33 Q 52 [.ref a0, .ref a1, .int x2] [] (mk D ct) :=
  s_iload_n c33_52 rfl <|
  s_const c33_53 zcI_4 <|
  s_icge c33_54 k1 k2
theorem b33_57 {a0 : Nat} (ha0 : zsh D a0 = (2, 0)) {a1 : Nat} (ha1 : zsh D a1 = (2, 0)) {x2 : Int32} {j67 : Nat} (hx67 : zix x2 j67 4) {j68 : Nat} (hx68 : zix x2 j68 4) (kk : RUN X C 33 Q 52 [.ref a0, .ref a1, .int (x2 + nI 1)] [] (mk D (u2 ct (a0 + 2) j68 (ct (a1 + 2) j67)))) : RUN X C 33 Q 57 [.ref a0, .ref a1, .int x2] [] (mk D ct) :=
  s_aload_n c33_57 rfl <|
  s_getf (ct := ct) c33_58 ha0 (by decide) rfl <|
  s_iload_n c33_61 rfl <|
  s_aload_n c33_62 rfl <|
  s_getf (ct := ct) c33_63 ha1 (by decide) rfl <|
  s_iload_n c33_66 rfl <|
  s_iald (ct := ct) c33_67 (zsh_p1 ha1).2.1 hx67 <|
  s_iast (ct := ct) c33_68 (zsh_p1 ha0).2.1 hx68 <|
  s_iinc c33_69 rfl True.intro zcI_1 <|
  s_goto c33_72 <|
  kk
theorem b33_75 {a0 : Nat} (ha0 : zsh D a0 = (2, 0)) {a1 : Nat} (ha1 : zsh D a1 = (2, 0)) {x2 : Int32} (hq : Q none (mk D ct)) : RUN X C 33 Q 75 [.ref a0, .ref a1, .int x2] [] (mk D ct) :=
  s_ret c33_75 rfl hq
-- ('PaintedTown$Town', 'become', '(LPaintedTown$Town;)V')
theorem b34_0 {a0 : Nat} (ha0 : zsh D a0 = (3, 0)) {a1 : Nat} (ha1 : zsh D a1 = (3, 0)) {l2 : Value} (kk : RUN X C 34 Q 2 [.ref a0, .ref a1, .int (nI 0)] [] (mk D ct)) : RUN X C 34 Q 0 [.ref a0, .ref a1, l2] [] (mk D ct) :=
  s_const c34_0 zcI_0 <|
  s_istore_n c34_1 (Nat.le_of_ble_eq_true rfl) True.intro <|
  kk
theorem b34_2 {a0 : Nat} (ha0 : zsh D a0 = (3, 0)) {a1 : Nat} (ha1 : zsh D a1 = (3, 0)) {x2 : Int32} (k1 : (nI 36) ≤ x2 → RUN X C 34 Q 50 [.ref a0, .ref a1, .int x2] [] (mk D ct)) (k2 : ¬ (nI 36) ≤ x2 → RUN X C 34 Q 8 [.ref a0, .ref a1, .int x2] [] (mk D ct)) : RUN X C 34 Q 2 [.ref a0, .ref a1, .int x2] [] (mk D ct) :=
  s_iload_n c34_2 rfl <|
  s_bipush c34_3 zcB_36 <|
  s_icge c34_5 k1 k2
theorem b34_8 {a0 : Nat} (ha0 : zsh D a0 = (3, 0)) {a1 : Nat} (ha1 : zsh D a1 = (3, 0)) {x2 : Int32} {j18 : Nat} (hx18 : zix x2 j18 36) {j19 : Nat} (hx19 : zix x2 j19 36) {j30 : Nat} (hx30 : zix x2 j30 36) {j31 : Nat} (hx31 : zix x2 j31 36) {j42 : Nat} (hx42 : zix x2 j42 36) {j43 : Nat} (hx43 : zix x2 j43 36) (hb43 : (u2 (u2 ct (a0 + 1) j19 (ct (a1 + 1) j18)) (a0 + 2) j31 ((u2 ct (a0 + 1) j19 (ct (a1 + 1) j18)) (a1 + 2) j30)) (a1 + 3) j42 = nI 0 ∨ (u2 (u2 ct (a0 + 1) j19 (ct (a1 + 1) j18)) (a0 + 2) j31 ((u2 ct (a0 + 1) j19 (ct (a1 + 1) j18)) (a1 + 2) j30)) (a1 + 3) j42 = nI 1) (kk : RUN X C 34 Q 2 [.ref a0, .ref a1, .int (x2 + nI 1)] [] (mk D (u2 (u2 (u2 ct (a0 + 1) j19 (ct (a1 + 1) j18)) (a0 + 2) j31 ((u2 ct (a0 + 1) j19 (ct (a1 + 1) j18)) (a1 + 2) j30)) (a0 + 3) j43 ((u2 (u2 ct (a0 + 1) j19 (ct (a1 + 1) j18)) (a0 + 2) j31 ((u2 ct (a0 + 1) j19 (ct (a1 + 1) j18)) (a1 + 2) j30)) (a1 + 3) j42)))) : RUN X C 34 Q 8 [.ref a0, .ref a1, .int x2] [] (mk D ct) :=
  s_aload_n c34_8 rfl <|
  s_getf (ct := ct) c34_9 ha0 (by decide) rfl <|
  s_iload_n c34_12 rfl <|
  s_aload_n c34_13 rfl <|
  s_getf (ct := ct) c34_14 ha1 (by decide) rfl <|
  s_iload_n c34_17 rfl <|
  s_iald (ct := ct) c34_18 (zsh_t1 ha1) hx18 <|
  s_iast (ct := ct) c34_19 (zsh_t1 ha0) hx19 <|
  s_aload_n c34_20 rfl <|
  s_getf (ct := (u2 ct (a0 + 1) j19 (ct (a1 + 1) j18))) c34_21 ha0 (by decide) rfl <|
  s_iload_n c34_24 rfl <|
  s_aload_n c34_25 rfl <|
  s_getf (ct := (u2 ct (a0 + 1) j19 (ct (a1 + 1) j18))) c34_26 ha1 (by decide) rfl <|
  s_iload_n c34_29 rfl <|
  s_iald (ct := (u2 ct (a0 + 1) j19 (ct (a1 + 1) j18))) c34_30 (zsh_t2 ha1) hx30 <|
  s_iast (ct := (u2 ct (a0 + 1) j19 (ct (a1 + 1) j18))) c34_31 (zsh_t2 ha0) hx31 <|
  s_aload_n c34_32 rfl <|
  s_getf (ct := (u2 (u2 ct (a0 + 1) j19 (ct (a1 + 1) j18)) (a0 + 2) j31 ((u2 ct (a0 + 1) j19 (ct (a1 + 1) j18)) (a1 + 2) j30))) c34_33 ha0 (by decide) rfl <|
  s_iload_n c34_36 rfl <|
  s_aload_n c34_37 rfl <|
  s_getf (ct := (u2 (u2 ct (a0 + 1) j19 (ct (a1 + 1) j18)) (a0 + 2) j31 ((u2 ct (a0 + 1) j19 (ct (a1 + 1) j18)) (a1 + 2) j30))) c34_38 ha1 (by decide) rfl <|
  s_iload_n c34_41 rfl <|
  s_bald (ct := (u2 (u2 ct (a0 + 1) j19 (ct (a1 + 1) j18)) (a0 + 2) j31 ((u2 ct (a0 + 1) j19 (ct (a1 + 1) j18)) (a1 + 2) j30))) c34_42 (zsh_t3 ha1) hx42 <|
  s_bast (ct := (u2 (u2 ct (a0 + 1) j19 (ct (a1 + 1) j18)) (a0 + 2) j31 ((u2 ct (a0 + 1) j19 (ct (a1 + 1) j18)) (a1 + 2) j30))) c34_43 (zsh_t3 ha0) hx43 hb43 <|
  s_iinc c34_44 rfl True.intro zcI_1 <|
  s_goto c34_47 <|
  kk
theorem b34_50 {a0 : Nat} (ha0 : zsh D a0 = (3, 0)) {a1 : Nat} (ha1 : zsh D a1 = (3, 0)) {x2 : Int32} (hq : Q none (mk D (u2 (u2 (u2 ct a0 3 (ct a1 3)) a0 4 ((u2 ct a0 3 (ct a1 3)) a1 4)) a0 5 ((u2 (u2 ct a0 3 (ct a1 3)) a0 4 ((u2 ct a0 3 (ct a1 3)) a1 4)) a1 5)))) : RUN X C 34 Q 50 [.ref a0, .ref a1, .int x2] [] (mk D ct) :=
  s_aload_n c34_50 rfl <|
  s_aload_n c34_51 rfl <|
  s_getf (ct := ct) c34_52 ha1 (by decide) rfl <|
  s_putf (ct := ct) c34_55 ha0 (by decide) zint_3_3 xfit_3_3 <|
  s_aload_n c34_58 rfl <|
  s_aload_n c34_59 rfl <|
  s_getf (ct := (u2 ct a0 3 (ct a1 3))) c34_60 ha1 (by decide) rfl <|
  s_putf (ct := (u2 ct a0 3 (ct a1 3))) c34_63 ha0 (by decide) zint_3_4 xfit_3_4 <|
  s_aload_n c34_66 rfl <|
  s_aload_n c34_67 rfl <|
  s_getf (ct := (u2 (u2 ct a0 3 (ct a1 3)) a0 4 ((u2 ct a0 3 (ct a1 3)) a1 4))) c34_68 ha1 (by decide) rfl <|
  s_putf (ct := (u2 (u2 ct a0 3 (ct a1 3)) a0 4 ((u2 ct a0 3 (ct a1 3)) a1 4))) c34_71 ha0 (by decide) zint_3_5 xfit_3_5 <|
  s_ret c34_74 rfl hq
-- ('PaintedTown$Past', 'forgetAll', '()V')
theorem b35_0 {a0 : Nat} (ha0 : zsh D a0 = (4, 0)) (hq : Q none (mk D (u2 (u2 ct a0 1 (nI 0)) a0 2 (nI 0)))) : RUN X C 35 Q 0 [.ref a0] [] (mk D ct) :=
  s_aload_n c35_0 rfl <|
  s_const c35_1 zcI_0 <|
  s_putf (ct := ct) c35_2 ha0 (by decide) zint_4_1 xfit_4_1 <|
  s_aload_n c35_5 rfl <|
  s_const c35_6 zcI_0 <|
  s_putf (ct := (u2 ct a0 1 (nI 0))) c35_7 ha0 (by decide) zint_4_2 xfit_4_2 <|
  s_ret c35_10 rfl hq
-- ('PaintedTown$Painting', 'cells', '()I')
theorem b36_0 {a0 : Nat} (ha0 : zsh D a0 = (2, 0)) (hq : Q (some (.int ((ct a0 0) * (ct a0 1)))) (mk D ct)) : RUN X C 36 Q 0 [.ref a0] [] (mk D ct) :=
  s_aload_n c36_0 rfl <|
  s_getf (ct := ct) c36_1 ha0 (by decide) rfl <|
  s_aload_n c36_4 rfl <|
  s_getf (ct := ct) c36_5 ha0 (by decide) rfl <|
  s_imul c36_8 <|
  s_iret c36_9 (xrtI rfl) hq
-- ('PaintedTown', 'write', '(I)I')
theorem b37_0 {x1 : Int32} (k1 : x1 < (nI 32) → RUN X C 37 Q 12 [.ref 0, .int x1] [] (mk D ct)) (k2 : ¬ x1 < (nI 32) → RUN X C 37 Q 6 [.ref 0, .int x1] [] (mk D ct)) : RUN X C 37 Q 0 [.ref 0, .int x1] [] (mk D ct) :=
  s_iload_n c37_0 rfl <|
  s_bipush c37_1 zcB_32 <|
  s_iclt c37_3 k1 k2
theorem b37_6 {x1 : Int32} (k1 : x1 ≤ (nI 126) → RUN X C 37 Q 14 [.ref 0, .int x1] [] (mk D ct)) (k2 : ¬ x1 ≤ (nI 126) → RUN X C 37 Q 12 [.ref 0, .int x1] [] (mk D ct)) : RUN X C 37 Q 6 [.ref 0, .int x1] [] (mk D ct) :=
  s_iload_n c37_6 rfl <|
  s_bipush c37_7 zcB_126 <|
  s_icle c37_9 k1 k2
theorem b37_12 {x1 : Int32} (hq : Q (some (.int (-1))) (mk D ct)) : RUN X C 37 Q 12 [.ref 0, .int x1] [] (mk D ct) :=
  s_const c37_12 zcI_m1 <|
  s_iret c37_13 (xrtI rfl) hq
theorem b37_14 {x1 : Int32} {D1 : zD} {ct1 : zM} {v1 : Int32} (he : C 19 [.ref 1, .int ((x1.toUInt32 % 65536).toInt32)] (mk D ct) (some (.int v1)) (mk D1 ct1)) (kk : RUN X C 37 Q 23 [.ref 0, .int x1] [.int v1] (mk D1 ct1)) : RUN X C 37 Q 14 [.ref 0, .int x1] [] (mk D ct) :=
  s_aload_n c37_14 rfl <|
  s_getf (ct := ct) c37_15 rfl (by decide) rfl <|
  s_iload_n c37_18 rfl <|
  s_i2c c37_19 <|
  s_callv (args := [.int ((x1.toUInt32 % 65536).toInt32)]) (r := []) c37_20 rfl rfl (Nat.le_of_ble_eq_true rfl) rfl ⟨rfl, by decide⟩ he kk
theorem b37_23 {x1 : Int32} {xs0 : Int32} (k1 : xs0 = (nI 0) → RUN X C 37 Q 26 [.ref 0, .int x1] [] (mk D ct)) (k2 : ¬ xs0 = (nI 0) → RUN X C 37 Q 29 [.ref 0, .int x1] [] (mk D ct)) : RUN X C 37 Q 23 [.ref 0, .int x1] [.int xs0] (mk D ct) :=
  s_ifne c37_23 k1 k2
theorem b37_26 {x1 : Int32} (hq : Q (some (.int (-3))) (mk D ct)) : RUN X C 37 Q 26 [.ref 0, .int x1] [] (mk D ct) :=
  s_bipush c37_26 zcB_m3 <|
  s_iret c37_28 (xrtI rfl) hq
theorem b37_29 {x1 : Int32} (hq : Q (some (.int (ct 1 1))) (mk D ct)) : RUN X C 37 Q 29 [.ref 0, .int x1] [] (mk D ct) :=
  s_aload_n c37_29 rfl <|
  s_getf (ct := ct) c37_30 rfl (by decide) rfl <|
  s_getf (ct := ct) c37_33 rfl (by decide) rfl <|
  s_iret c37_36 (xrtI rfl) hq
-- ('PaintedTown', 'wipe', '()I')
theorem b38_0 {l1 : Value} (hq : Q (some (.int (ct 1 1))) (mk D (u2 ct 1 1 (nI 0)))) : RUN X C 38 Q 0 [.ref 0, l1] [] (mk D ct) :=
  s_aload_n c38_0 rfl <|
  s_getf (ct := ct) c38_1 rfl (by decide) rfl <|
  s_getf (ct := ct) c38_4 rfl (by decide) rfl <|
  s_istore_n c38_7 (Nat.le_of_ble_eq_true rfl) True.intro <|
  s_aload_n c38_8 rfl <|
  s_getf (ct := ct) c38_9 rfl (by decide) rfl <|
  s_const c38_12 zcI_0 <|
  s_putf (ct := ct) c38_13 rfl (by decide) zint_1_1 xfit_1_1 <|
  s_iload_n c38_16 rfl <|
  s_iret c38_17 (xrtI rfl) hq
-- ('PaintedTown', 'fault', '()I')
theorem b39_0 {D1 : zD} {ct1 : zM} {v1 : Int32} (he : C 21 [.ref 1] (mk D ct) (some (.int v1)) (mk D1 ct1)) (kk : RUN X C 39 Q 7 [.ref 0] [.int v1] (mk D1 ct1)) : RUN X C 39 Q 0 [.ref 0] [] (mk D ct) :=
  s_aload_n c39_0 rfl <|
  s_getf (ct := ct) c39_1 rfl (by decide) rfl <|
  s_callv (args := []) (r := []) c39_4 rfl rfl (Nat.le_of_ble_eq_true rfl) rfl ⟨rfl, by decide⟩ he kk
theorem b39_7 {xs0 : Int32} (hq : Q (some (.int xs0)) (mk D ct)) : RUN X C 39 Q 7 [.ref 0] [.int xs0] (mk D ct) :=
  s_iret c39_7 (xrtI rfl) hq
-- ('PaintedTown', 'lay', '()I')
theorem b40_0 {D1 : zD} {ct1 : zM} {v1 : Int32} (he : C 20 [.ref 0] (mk D ct) (some (.int v1)) (mk D1 ct1)) (kk : RUN X C 40 Q 4 [.ref 0] [.int v1] (mk D1 ct1)) : RUN X C 40 Q 0 [.ref 0] [] (mk D ct) :=
  s_aload_n c40_0 rfl <|
  s_callv (args := []) (r := []) c40_1 rfl rfl (Nat.le_of_ble_eq_true rfl) rfl ⟨rfl, by decide⟩ he kk
theorem b40_4 {xs0 : Int32} (hq : Q (some (.int xs0)) (mk D ct)) : RUN X C 40 Q 4 [.ref 0] [.int xs0] (mk D ct) :=
  s_iret c40_4 (xrtI rfl) hq
-- ('PaintedTown', 'cell', '(II)I')
theorem b41_0 {x1 : Int32} {x2 : Int32} {D1 : zD} {ct1 : zM} {v1 : Int32} (he : C 30 [.ref 11, .int x1] (mk D ct) (some (.int v1)) (mk D1 ct1)) (kk : RUN X C 41 Q 8 [.ref 0, .int x1, .int x2] [.int v1] (mk D1 ct1)) : RUN X C 41 Q 0 [.ref 0, .int x1, .int x2] [] (mk D ct) :=
  s_aload_n c41_0 rfl <|
  s_getf (ct := ct) c41_1 rfl (by decide) rfl <|
  s_iload_n c41_4 rfl <|
  s_callv (args := [.int x1]) (r := []) c41_5 rfl rfl (Nat.le_of_ble_eq_true rfl) rfl ⟨rfl, by decide⟩ he kk
theorem b41_8 {x1 : Int32} {x2 : Int32} {xs0 : Int32} (k1 : xs0 = (nI 0) → RUN X C 41 Q 20 [.ref 0, .int x1, .int x2] [] (mk D ct)) (k2 : ¬ xs0 = (nI 0) → RUN X C 41 Q 11 [.ref 0, .int x1, .int x2] [] (mk D ct)) : RUN X C 41 Q 8 [.ref 0, .int x1, .int x2] [.int xs0] (mk D ct) :=
  s_ifeq c41_8 k1 k2
theorem b41_11 {x1 : Int32} {x2 : Int32} (k1 : x2 < (nI 0) → RUN X C 41 Q 20 [.ref 0, .int x1, .int x2] [] (mk D ct)) (k2 : ¬ x2 < (nI 0) → RUN X C 41 Q 15 [.ref 0, .int x1, .int x2] [] (mk D ct)) : RUN X C 41 Q 11 [.ref 0, .int x1, .int x2] [] (mk D ct) :=
  s_iload_n c41_11 rfl <|
  s_iflt c41_12 k1 k2
theorem b41_15 {x1 : Int32} {x2 : Int32} (k1 : x2 ≤ (nI 5) → RUN X C 41 Q 22 [.ref 0, .int x1, .int x2] [] (mk D ct)) (k2 : ¬ x2 ≤ (nI 5) → RUN X C 41 Q 20 [.ref 0, .int x1, .int x2] [] (mk D ct)) : RUN X C 41 Q 15 [.ref 0, .int x1, .int x2] [] (mk D ct) :=
  s_iload_n c41_15 rfl <|
  s_const c41_16 zcI_5 <|
  s_icle c41_17 k1 k2
theorem b41_20 {x1 : Int32} {x2 : Int32} (hq : Q (some (.int (-1))) (mk D ct)) : RUN X C 41 Q 20 [.ref 0, .int x1, .int x2] [] (mk D ct) :=
  s_const c41_20 zcI_m1 <|
  s_iret c41_21 (xrtI rfl) hq
theorem b41_22 {x1 : Int32} {x2 : Int32} (kk : xsw [112, 56, 66, 76, 89, 102] (x2.toInt - 0) fun t => RUN X C 41 Q t [.ref 0, .int x1, .int x2] [] (mk D ct)) : RUN X C 41 Q 22 [.ref 0, .int x1, .int x2] [] (mk D ct) :=
  s_iload_n c41_22 rfl <|
  s_switch c41_23 kk
theorem b41_56 {x1 : Int32} {x2 : Int32} {j64 : Nat} (hx64 : zix x1 j64 36) (hq : Q (some (.int (ct 12 j64))) (mk D ct)) : RUN X C 41 Q 56 [.ref 0, .int x1, .int x2] [] (mk D ct) :=
  s_aload_n c41_56 rfl <|
  s_getf (ct := ct) c41_57 rfl (by decide) rfl <|
  s_getf (ct := ct) c41_60 rfl (by decide) rfl <|
  s_iload_n c41_63 rfl <|
  s_iald (ct := ct) c41_64 rfl hx64 <|
  s_iret c41_65 (xrtI rfl) hq
theorem b41_66 {x1 : Int32} {x2 : Int32} {j74 : Nat} (hx74 : zix x1 j74 36) (hq : Q (some (.int (ct 15 j74))) (mk D ct)) : RUN X C 41 Q 66 [.ref 0, .int x1, .int x2] [] (mk D ct) :=
  s_aload_n c41_66 rfl <|
  s_getf (ct := ct) c41_67 rfl (by decide) rfl <|
  s_getf (ct := ct) c41_70 rfl (by decide) rfl <|
  s_iload_n c41_73 rfl <|
  s_iald (ct := ct) c41_74 rfl hx74 <|
  s_iret c41_75 (xrtI rfl) hq
theorem b41_76 {x1 : Int32} {x2 : Int32} {D1 : zD} {ct1 : zM} (he : C 42 [.ref 0] (mk D ct) none (mk D1 ct1)) (kk : RUN X C 41 Q 80 [.ref 0, .int x1, .int x2] [] (mk D1 ct1)) : RUN X C 41 Q 76 [.ref 0, .int x1, .int x2] [] (mk D ct) :=
  s_aload_n c41_76 rfl <|
  s_callv (args := []) (r := []) c41_77 rfl rfl (Nat.le_of_ble_eq_true rfl) rfl ⟨rfl, by decide⟩ he kk
theorem b41_80 {x1 : Int32} {x2 : Int32} {D1 : zD} {ct1 : zM} {v1 : Int32} (he : C 43 [.ref 26, .int x1] (mk D ct) (some (.int v1)) (mk D1 ct1)) (kk : RUN X C 41 Q 88 [.ref 0, .int x1, .int x2] [.int v1] (mk D1 ct1)) : RUN X C 41 Q 80 [.ref 0, .int x1, .int x2] [] (mk D ct) :=
  s_aload_n c41_80 rfl <|
  s_getf (ct := ct) c41_81 rfl (by decide) rfl <|
  s_iload_n c41_84 rfl <|
  s_callv (args := [.int x1]) (r := []) c41_85 rfl rfl (Nat.le_of_ble_eq_true rfl) rfl ⟨rfl, by decide⟩ he kk
theorem b41_88 {x1 : Int32} {x2 : Int32} {xs0 : Int32} (hq : Q (some (.int xs0)) (mk D ct)) : RUN X C 41 Q 88 [.ref 0, .int x1, .int x2] [.int xs0] (mk D ct) :=
  s_iret c41_88 (xrtI rfl) hq
theorem b41_89 {x1 : Int32} {x2 : Int32} {D1 : zD} {ct1 : zM} (he : C 42 [.ref 0] (mk D ct) none (mk D1 ct1)) (kk : RUN X C 41 Q 93 [.ref 0, .int x1, .int x2] [] (mk D1 ct1)) : RUN X C 41 Q 89 [.ref 0, .int x1, .int x2] [] (mk D ct) :=
  s_aload_n c41_89 rfl <|
  s_callv (args := []) (r := []) c41_90 rfl rfl (Nat.le_of_ble_eq_true rfl) rfl ⟨rfl, by decide⟩ he kk
theorem b41_93 {x1 : Int32} {x2 : Int32} {D1 : zD} {ct1 : zM} {v1 : Int32} (he : C 45 [.ref 26, .int x1] (mk D ct) (some (.int v1)) (mk D1 ct1)) (kk : RUN X C 41 Q 101 [.ref 0, .int x1, .int x2] [.int v1] (mk D1 ct1)) : RUN X C 41 Q 93 [.ref 0, .int x1, .int x2] [] (mk D ct) :=
  s_aload_n c41_93 rfl <|
  s_getf (ct := ct) c41_94 rfl (by decide) rfl <|
  s_iload_n c41_97 rfl <|
  s_callv (args := [.int x1]) (r := []) c41_98 rfl rfl (Nat.le_of_ble_eq_true rfl) rfl ⟨rfl, by decide⟩ he kk
theorem b41_101 {x1 : Int32} {x2 : Int32} {xs0 : Int32} (hq : Q (some (.int xs0)) (mk D ct)) : RUN X C 41 Q 101 [.ref 0, .int x1, .int x2] [.int xs0] (mk D ct) :=
  s_iret c41_101 (xrtI rfl) hq
theorem b41_102 {x1 : Int32} {x2 : Int32} {j110 : Nat} (hx110 : zix x1 j110 36) (hq : Q (some (.int (ct 16 j110))) (mk D ct)) : RUN X C 41 Q 102 [.ref 0, .int x1, .int x2] [] (mk D ct) :=
  s_aload_n c41_102 rfl <|
  s_getf (ct := ct) c41_103 rfl (by decide) rfl <|
  s_getf (ct := ct) c41_106 rfl (by decide) rfl <|
  s_iload_n c41_109 rfl <|
  s_iald (ct := ct) c41_110 rfl hx110 <|
  s_iret c41_111 (xrtI rfl) hq
theorem b41_112 {x1 : Int32} {x2 : Int32} {j120 : Nat} (hx120 : zix x1 j120 36) (k1 : (ct 17 j120) = (nI 0) → RUN X C 41 Q 128 [.ref 0, .int x1, .int x2] [] (mk D ct)) (k2 : ¬ (ct 17 j120) = (nI 0) → RUN X C 41 Q 124 [.ref 0, .int x1, .int x2] [] (mk D ct)) : RUN X C 41 Q 112 [.ref 0, .int x1, .int x2] [] (mk D ct) :=
  s_aload_n c41_112 rfl <|
  s_getf (ct := ct) c41_113 rfl (by decide) rfl <|
  s_getf (ct := ct) c41_116 rfl (by decide) rfl <|
  s_iload_n c41_119 rfl <|
  s_bald (ct := ct) c41_120 rfl hx120 <|
  s_ifeq c41_121 k1 k2
theorem b41_124 {x1 : Int32} {x2 : Int32} (hq : Q (some (.int (nI 1))) (mk D ct)) : RUN X C 41 Q 124 [.ref 0, .int x1, .int x2] [] (mk D ct) :=
  s_const c41_124 zcI_1 <|
  s_goto c41_125 <|
  s_iret c41_129 (xrtI rfl) hq
theorem b41_128 {x1 : Int32} {x2 : Int32} (hq : Q (some (.int (nI 0))) (mk D ct)) : RUN X C 41 Q 128 [.ref 0, .int x1, .int x2] [] (mk D ct) :=
  s_const c41_128 zcI_0 <|
  s_iret c41_129 (xrtI rfl) hq
-- ('PaintedTown', 'supposeNow', '()V')
theorem b42_0 {D1 : zD} {ct1 : zM} (he : C 34 [.ref 22, .ref 14] (mk D ct) none (mk D1 ct1)) (kk : RUN X C 42 Q 11 [.ref 0] [] (mk D1 ct1)) : RUN X C 42 Q 0 [.ref 0] [] (mk D ct) :=
  s_aload_n c42_0 rfl <|
  s_getf (ct := ct) c42_1 rfl (by decide) rfl <|
  s_aload_n c42_4 rfl <|
  s_getf (ct := ct) c42_5 rfl (by decide) rfl <|
  s_callv (args := [.ref 14]) (r := []) c42_8 rfl rfl (Nat.le_of_ble_eq_true rfl) rfl ⟨rfl, by decide⟩ he kk
theorem b42_11 (hq : Q none (mk D ct)) : RUN X C 42 Q 11 [.ref 0] [] (mk D ct) :=
  s_ret c42_11 rfl hq
-- ('PaintedTown$Judge', 'sees', '(I)I')
theorem b43_0 {x1 : Int32} {l2 : Value} {l3 : Value} {l4 : Value} {D1 : zD} {ct1 : zM} {v1 : Int32} (he : C 30 [.ref 11, .int x1] (mk D ct) (some (.int v1)) (mk D1 ct1)) (kk : RUN X C 43 Q 8 [.ref 26, .int x1, l2, l3, l4] [.int v1] (mk D1 ct1)) : RUN X C 43 Q 0 [.ref 26, .int x1, l2, l3, l4] [] (mk D ct) :=
  s_aload_n c43_0 rfl <|
  s_getf (ct := ct) c43_1 rfl (by decide) rfl <|
  s_iload_n c43_4 rfl <|
  s_callv (args := [.int x1]) (r := []) c43_5 rfl rfl (Nat.le_of_ble_eq_true rfl) rfl ⟨rfl, by decide⟩ he kk
theorem b43_8 {x1 : Int32} {l2 : Value} {l3 : Value} {l4 : Value} {xs0 : Int32} (k1 : xs0 = (nI 0) → RUN X C 43 Q 11 [.ref 26, .int x1, l2, l3, l4] [] (mk D ct)) (k2 : ¬ xs0 = (nI 0) → RUN X C 43 Q 13 [.ref 26, .int x1, l2, l3, l4] [] (mk D ct)) : RUN X C 43 Q 8 [.ref 26, .int x1, l2, l3, l4] [.int xs0] (mk D ct) :=
  s_ifne c43_8 k1 k2
theorem b43_11 {x1 : Int32} {l2 : Value} {l3 : Value} {l4 : Value} (hq : Q (some (.int (nI 0))) (mk D ct)) : RUN X C 43 Q 11 [.ref 26, .int x1, l2, l3, l4] [] (mk D ct) :=
  s_const c43_11 zcI_0 <|
  s_iret c43_12 (xrtI rfl) hq
theorem b43_13 {x1 : Int32} {l2 : Value} {l3 : Value} {l4 : Value} {j21 : Nat} (hx21 : zix x1 j21 36) (k1 : (ct 25 j21) = (nI 0) → RUN X C 43 Q 35 [.ref 26, .int x1, l2, l3, l4] [] (mk D ct)) (k2 : ¬ (ct 25 j21) = (nI 0) → RUN X C 43 Q 25 [.ref 26, .int x1, l2, l3, l4] [] (mk D ct)) : RUN X C 43 Q 13 [.ref 26, .int x1, l2, l3, l4] [] (mk D ct) :=
  s_aload_n c43_13 rfl <|
  s_getf (ct := ct) c43_14 rfl (by decide) rfl <|
  s_getf (ct := ct) c43_17 rfl (by decide) rfl <|
  s_iload_n c43_20 rfl <|
  s_bald (ct := ct) c43_21 rfl hx21 <|
  s_ifeq c43_22 k1 k2
theorem b43_25 {x1 : Int32} {l2 : Value} {l3 : Value} {l4 : Value} {j33 : Nat} (hx33 : zix x1 j33 36) (hq : Q (some (.int (ct 12 j33))) (mk D ct)) : RUN X C 43 Q 25 [.ref 26, .int x1, l2, l3, l4] [] (mk D ct) :=
  s_aload_n c43_25 rfl <|
  s_getf (ct := ct) c43_26 rfl (by decide) rfl <|
  s_getf (ct := ct) c43_29 rfl (by decide) rfl <|
  s_iload_n c43_32 rfl <|
  s_iald (ct := ct) c43_33 rfl hx33 <|
  s_iret c43_34 (xrtI rfl) hq
theorem b43_35 {x1 : Int32} {l2 : Value} {l3 : Value} {l4 : Value} {j43 : Nat} (hx43 : zix x1 j43 36) (k1 : (ct 23 j43) = (nI 0) → RUN X C 43 Q 56 [.ref 26, .int x1, .int (ct 23 j43), l3, l4] [] (mk D ct)) (k2 : ¬ (ct 23 j43) = (nI 0) → RUN X C 43 Q 49 [.ref 26, .int x1, .int (ct 23 j43), l3, l4] [] (mk D ct)) : RUN X C 43 Q 35 [.ref 26, .int x1, l2, l3, l4] [] (mk D ct) :=
  s_aload_n c43_35 rfl <|
  s_getf (ct := ct) c43_36 rfl (by decide) rfl <|
  s_getf (ct := ct) c43_39 rfl (by decide) rfl <|
  s_iload_n c43_42 rfl <|
  s_iald (ct := ct) c43_43 rfl hx43 <|
  s_istore_n c43_44 (Nat.le_of_ble_eq_true rfl) True.intro <|
  s_iload_n c43_45 rfl <|
  s_ifeq c43_46 k1 k2
theorem b43_49 {x1 : Int32} {x2 : Int32} {l3 : Value} {l4 : Value} (k1 : x2 = (nI 4) → RUN X C 43 Q 56 [.ref 26, .int x1, .int x2, l3, l4] [] (mk D ct)) (k2 : ¬ x2 = (nI 4) → RUN X C 43 Q 54 [.ref 26, .int x1, .int x2, l3, l4] [] (mk D ct)) : RUN X C 43 Q 49 [.ref 26, .int x1, .int x2, l3, l4] [] (mk D ct) :=
  s_iload_n c43_49 rfl <|
  s_const c43_50 zcI_4 <|
  s_iceq c43_51 k1 k2
theorem b43_54 {x1 : Int32} {x2 : Int32} {l3 : Value} {l4 : Value} (hq : Q (some (.int x2)) (mk D ct)) : RUN X C 43 Q 54 [.ref 26, .int x1, .int x2, l3, l4] [] (mk D ct) :=
  s_iload_n c43_54 rfl <|
  s_iret c43_55 (xrtI rfl) hq
theorem b43_56 {x1 : Int32} {x2 : Int32} {l3 : Value} {l4 : Value} {D1 : zD} {ct1 : zM} {v1 : Int32} (he : C 30 [.ref 11, .int (x1 + (ct 11 1))] (mk D ct) (some (.int v1)) (mk D1 ct1)) (kk : RUN X C 43 Q 74 [.ref 26, .int x1, .int x2, .int (x1 + (ct 11 1)), l4] [.int v1] (mk D1 ct1)) : RUN X C 43 Q 56 [.ref 26, .int x1, .int x2, l3, l4] [] (mk D ct) :=
  s_iload_n c43_56 rfl <|
  s_aload_n c43_57 rfl <|
  s_getf (ct := ct) c43_58 rfl (by decide) rfl <|
  s_getf (ct := ct) c43_61 rfl (by decide) rfl <|
  s_iadd c43_64 <|
  s_istore_n c43_65 (Nat.le_of_ble_eq_true rfl) True.intro <|
  s_aload_n c43_66 rfl <|
  s_getf (ct := ct) c43_67 rfl (by decide) rfl <|
  s_iload_n c43_70 rfl <|
  s_callv (args := [.int (x1 + (ct 11 1))]) (r := []) c43_71 rfl rfl (Nat.le_of_ble_eq_true rfl) rfl ⟨rfl, by decide⟩ he kk
theorem b43_74 {x1 : Int32} {x2 : Int32} {x3 : Int32} {l4 : Value} {xs0 : Int32} (k1 : xs0 = (nI 0) → RUN X C 43 Q 105 [.ref 26, .int x1, .int x2, .int x3, l4] [] (mk D ct)) (k2 : ¬ xs0 = (nI 0) → RUN X C 43 Q 77 [.ref 26, .int x1, .int x2, .int x3, l4] [] (mk D ct)) : RUN X C 43 Q 74 [.ref 26, .int x1, .int x2, .int x3, l4] [.int xs0] (mk D ct) :=
  s_ifeq c43_74 k1 k2
theorem b43_77 {x1 : Int32} {x2 : Int32} {x3 : Int32} {l4 : Value} {j85 : Nat} (hx85 : zix x3 j85 36) (k1 : (ct 23 j85) = (nI 5) → RUN X C 43 Q 90 [.ref 26, .int x1, .int x2, .int x3, l4] [] (mk D ct)) (k2 : ¬ (ct 23 j85) = (nI 5) → RUN X C 43 Q 105 [.ref 26, .int x1, .int x2, .int x3, l4] [] (mk D ct)) : RUN X C 43 Q 77 [.ref 26, .int x1, .int x2, .int x3, l4] [] (mk D ct) :=
  s_aload_n c43_77 rfl <|
  s_getf (ct := ct) c43_78 rfl (by decide) rfl <|
  s_getf (ct := ct) c43_81 rfl (by decide) rfl <|
  s_iload_n c43_84 rfl <|
  s_iald (ct := ct) c43_85 rfl hx85 <|
  s_const c43_86 zcI_5 <|
  s_icne c43_87 k1 k2
theorem b43_90 {x1 : Int32} {x2 : Int32} {x3 : Int32} {l4 : Value} {j98 : Nat} (hx98 : zix x3 j98 36) (k1 : (ct 24 j98) < (nI 3) → RUN X C 43 Q 105 [.ref 26, .int x1, .int x2, .int x3, l4] [] (mk D ct)) (k2 : ¬ (ct 24 j98) < (nI 3) → RUN X C 43 Q 103 [.ref 26, .int x1, .int x2, .int x3, l4] [] (mk D ct)) : RUN X C 43 Q 90 [.ref 26, .int x1, .int x2, .int x3, l4] [] (mk D ct) :=
  s_aload_n c43_90 rfl <|
  s_getf (ct := ct) c43_91 rfl (by decide) rfl <|
  s_getf (ct := ct) c43_94 rfl (by decide) rfl <|
  s_iload_n c43_97 rfl <|
  s_iald (ct := ct) c43_98 rfl hx98 <|
  s_const c43_99 zcI_3 <|
  s_iclt c43_100 k1 k2
theorem b43_103 {x1 : Int32} {x2 : Int32} {x3 : Int32} {l4 : Value} (hq : Q (some (.int (nI 5))) (mk D ct)) : RUN X C 43 Q 103 [.ref 26, .int x1, .int x2, .int x3, l4] [] (mk D ct) :=
  s_const c43_103 zcI_5 <|
  s_iret c43_104 (xrtI rfl) hq
theorem b43_105 {x1 : Int32} {x2 : Int32} {x3 : Int32} {l4 : Value} {D1 : zD} {ct1 : zM} {v1 : Int32} (he : C 44 [.ref 11, .int x1, .int (ct 22 3)] (mk D ct) (some (.int v1)) (mk D1 ct1)) (kk : RUN X C 43 Q 120 [.ref 26, .int x1, .int x2, .int x3, l4] [.int v1] (mk D1 ct1)) : RUN X C 43 Q 105 [.ref 26, .int x1, .int x2, .int x3, l4] [] (mk D ct) :=
  s_aload_n c43_105 rfl <|
  s_getf (ct := ct) c43_106 rfl (by decide) rfl <|
  s_iload_n c43_109 rfl <|
  s_aload_n c43_110 rfl <|
  s_getf (ct := ct) c43_111 rfl (by decide) rfl <|
  s_getf (ct := ct) c43_114 rfl (by decide) rfl <|
  s_callv (args := [.int x1, .int (ct 22 3)]) (r := []) c43_117 rfl rfl (Nat.le_of_ble_eq_true rfl) rfl ⟨rfl, by decide⟩ he kk
theorem b43_120 {x1 : Int32} {x2 : Int32} {x3 : Int32} {l4 : Value} {xs0 : Int32} {D1 : zD} {ct1 : zM} {v1 : Int32} (he : C 30 [.ref 11, .int xs0] (mk D ct) (some (.int v1)) (mk D1 ct1)) (kk : RUN X C 43 Q 131 [.ref 26, .int x1, .int x2, .int x3, .int xs0] [.int v1] (mk D1 ct1)) : RUN X C 43 Q 120 [.ref 26, .int x1, .int x2, .int x3, l4] [.int xs0] (mk D ct) :=
  s_istore c43_120 (Nat.le_of_ble_eq_true rfl) True.intro <|
  s_aload_n c43_122 rfl <|
  s_getf (ct := ct) c43_123 rfl (by decide) rfl <|
  s_iload c43_126 rfl <|
  s_callv (args := [.int xs0]) (r := []) c43_128 rfl rfl (Nat.le_of_ble_eq_true rfl) rfl ⟨rfl, by decide⟩ he kk
theorem b43_131 {x1 : Int32} {x2 : Int32} {x3 : Int32} {x4 : Int32} {xs0 : Int32} (k1 : xs0 = (nI 0) → RUN X C 43 Q 152 [.ref 26, .int x1, .int x2, .int x3, .int x4] [] (mk D ct)) (k2 : ¬ xs0 = (nI 0) → RUN X C 43 Q 134 [.ref 26, .int x1, .int x2, .int x3, .int x4] [] (mk D ct)) : RUN X C 43 Q 131 [.ref 26, .int x1, .int x2, .int x3, .int x4] [.int xs0] (mk D ct) :=
  s_ifeq c43_131 k1 k2
theorem b43_134 {x1 : Int32} {x2 : Int32} {x3 : Int32} {x4 : Int32} {j143 : Nat} (hx143 : zix x4 j143 36) (k1 : (ct 23 j143) = (nI 4) → RUN X C 43 Q 148 [.ref 26, .int x1, .int x2, .int x3, .int x4] [] (mk D ct)) (k2 : ¬ (ct 23 j143) = (nI 4) → RUN X C 43 Q 152 [.ref 26, .int x1, .int x2, .int x3, .int x4] [] (mk D ct)) : RUN X C 43 Q 134 [.ref 26, .int x1, .int x2, .int x3, .int x4] [] (mk D ct) :=
  s_aload_n c43_134 rfl <|
  s_getf (ct := ct) c43_135 rfl (by decide) rfl <|
  s_getf (ct := ct) c43_138 rfl (by decide) rfl <|
  s_iload c43_141 rfl <|
  s_iald (ct := ct) c43_143 rfl hx143 <|
  s_const c43_144 zcI_4 <|
  s_icne c43_145 k1 k2
theorem b43_148 {x1 : Int32} {x2 : Int32} {x3 : Int32} {x4 : Int32} (hq : Q (some (.int (nI 4))) (mk D ct)) : RUN X C 43 Q 148 [.ref 26, .int x1, .int x2, .int x3, .int x4] [] (mk D ct) :=
  s_const c43_148 zcI_4 <|
  s_goto c43_149 <|
  s_iret c43_153 (xrtI rfl) hq
theorem b43_152 {x1 : Int32} {x2 : Int32} {x3 : Int32} {x4 : Int32} (hq : Q (some (.int (nI 0))) (mk D ct)) : RUN X C 43 Q 152 [.ref 26, .int x1, .int x2, .int x3, .int x4] [] (mk D ct) :=
  s_const c43_152 zcI_0 <|
  s_iret c43_153 (xrtI rfl) hq
-- ('PaintedTown$Painting', 'windward', '(II)I')
theorem b44_0 {a0 : Nat} (ha0 : zsh D a0 = (2, 0)) {x1 : Int32} {x2 : Int32} (k1 : (nI 1) ≤ (ct a0 1) → RUN X C 44 Q 10 [.ref a0, .int x1, .int x2] [] (mk D ct)) (k2 : ¬ (nI 1) ≤ (ct a0 1) → RUN X C 44 Q 8 [.ref a0, .int x1, .int x2] [] (mk D ct)) : RUN X C 44 Q 0 [.ref a0, .int x1, .int x2] [] (mk D ct) :=
  s_aload_n c44_0 rfl <|
  s_getf (ct := ct) c44_1 ha0 (by decide) rfl <|
  s_const c44_4 zcI_1 <|
  s_icge c44_5 k1 k2
theorem b44_8 {a0 : Nat} (ha0 : zsh D a0 = (2, 0)) {x1 : Int32} {x2 : Int32} (hq : Q (some (.int x1)) (mk D ct)) : RUN X C 44 Q 8 [.ref a0, .int x1, .int x2] [] (mk D ct) :=
  s_iload_n c44_8 rfl <|
  s_iret c44_9 (xrtI rfl) hq
theorem b44_10 {a0 : Nat} (ha0 : zsh D a0 = (2, 0)) {x1 : Int32} {x2 : Int32} (kk : xsw [85, 36, 43, 61] (x2.toInt - 1) fun t => RUN X C 44 Q t [.ref a0, .int x1, .int x2] [] (mk D ct)) : RUN X C 44 Q 10 [.ref a0, .int x1, .int x2] [] (mk D ct) :=
  s_iload_n c44_10 rfl <|
  s_switch c44_11 kk
theorem b44_36 {a0 : Nat} (ha0 : zsh D a0 = (2, 0)) {x1 : Int32} {x2 : Int32} (hq : Q (some (.int (x1 + (ct a0 1)))) (mk D ct)) : RUN X C 44 Q 36 [.ref a0, .int x1, .int x2] [] (mk D ct) :=
  s_iload_n c44_36 rfl <|
  s_aload_n c44_37 rfl <|
  s_getf (ct := ct) c44_38 ha0 (by decide) rfl <|
  s_iadd c44_41 <|
  s_iret c44_42 (xrtI rfl) hq
theorem b44_43 {a0 : Nat} (ha0 : zsh D a0 = (2, 0)) {x1 : Int32} {x2 : Int32} (hz48 : ¬ (ct a0 1) = 0) (k1 : (x1 - x1 / (ct a0 1) * (ct a0 1)) ≤ (nI 0) → RUN X C 44 Q 58 [.ref a0, .int x1, .int x2] [] (mk D ct)) (k2 : ¬ (x1 - x1 / (ct a0 1) * (ct a0 1)) ≤ (nI 0) → RUN X C 44 Q 52 [.ref a0, .int x1, .int x2] [] (mk D ct)) : RUN X C 44 Q 43 [.ref a0, .int x1, .int x2] [] (mk D ct) :=
  s_iload_n c44_43 rfl <|
  s_aload_n c44_44 rfl <|
  s_getf (ct := ct) c44_45 ha0 (by decide) rfl <|
  s_irem c44_48 hz48 <|
  s_ifle c44_49 k1 k2
theorem b44_52 {a0 : Nat} (ha0 : zsh D a0 = (2, 0)) {x1 : Int32} {x2 : Int32} (hq : Q (some (.int (x1 - (nI 1)))) (mk D ct)) : RUN X C 44 Q 52 [.ref a0, .int x1, .int x2] [] (mk D ct) :=
  s_iload_n c44_52 rfl <|
  s_const c44_53 zcI_1 <|
  s_isub c44_54 <|
  s_goto c44_55 <|
  s_iret c44_60 (xrtI rfl) hq
theorem b44_58 {a0 : Nat} (ha0 : zsh D a0 = (2, 0)) {x1 : Int32} {x2 : Int32} (hq : Q (some (.int (-4))) (mk D ct)) : RUN X C 44 Q 58 [.ref a0, .int x1, .int x2] [] (mk D ct) :=
  s_bipush c44_58 zcB_m4 <|
  s_iret c44_60 (xrtI rfl) hq
theorem b44_61 {a0 : Nat} (ha0 : zsh D a0 = (2, 0)) {x1 : Int32} {x2 : Int32} (hz66 : ¬ (ct a0 1) = 0) (k1 : ((ct a0 1) - (nI 1)) ≤ (x1 - x1 / (ct a0 1) * (ct a0 1)) → RUN X C 44 Q 82 [.ref a0, .int x1, .int x2] [] (mk D ct)) (k2 : ¬ ((ct a0 1) - (nI 1)) ≤ (x1 - x1 / (ct a0 1) * (ct a0 1)) → RUN X C 44 Q 76 [.ref a0, .int x1, .int x2] [] (mk D ct)) : RUN X C 44 Q 61 [.ref a0, .int x1, .int x2] [] (mk D ct) :=
  s_iload_n c44_61 rfl <|
  s_aload_n c44_62 rfl <|
  s_getf (ct := ct) c44_63 ha0 (by decide) rfl <|
  s_irem c44_66 hz66 <|
  s_aload_n c44_67 rfl <|
  s_getf (ct := ct) c44_68 ha0 (by decide) rfl <|
  s_const c44_71 zcI_1 <|
  s_isub c44_72 <|
  s_icge c44_73 k1 k2
theorem b44_76 {a0 : Nat} (ha0 : zsh D a0 = (2, 0)) {x1 : Int32} {x2 : Int32} (hq : Q (some (.int (x1 + (nI 1)))) (mk D ct)) : RUN X C 44 Q 76 [.ref a0, .int x1, .int x2] [] (mk D ct) :=
  s_iload_n c44_76 rfl <|
  s_const c44_77 zcI_1 <|
  s_iadd c44_78 <|
  s_goto c44_79 <|
  s_iret c44_84 (xrtI rfl) hq
theorem b44_82 {a0 : Nat} (ha0 : zsh D a0 = (2, 0)) {x1 : Int32} {x2 : Int32} (hq : Q (some (.int (-4))) (mk D ct)) : RUN X C 44 Q 82 [.ref a0, .int x1, .int x2] [] (mk D ct) :=
  s_bipush c44_82 zcB_m4 <|
  s_iret c44_84 (xrtI rfl) hq
theorem b44_85 {a0 : Nat} (ha0 : zsh D a0 = (2, 0)) {x1 : Int32} {x2 : Int32} (hq : Q (some (.int x1)) (mk D ct)) : RUN X C 44 Q 85 [.ref a0, .int x1, .int x2] [] (mk D ct) :=
  s_iload_n c44_85 rfl <|
  s_iret c44_86 (xrtI rfl) hq
-- ('PaintedTown$Judge', 'price', '(I)I')
theorem b45_0 {x1 : Int32} {l2 : Value} {l3 : Value} {l4 : Value} {D1 : zD} {ct1 : zM} {v1 : Int32} (he : C 30 [.ref 11, .int x1] (mk D ct) (some (.int v1)) (mk D1 ct1)) (kk : RUN X C 45 Q 8 [.ref 26, .int x1, l2, l3, l4] [.int v1] (mk D1 ct1)) : RUN X C 45 Q 0 [.ref 26, .int x1, l2, l3, l4] [] (mk D ct) :=
  s_aload_n c45_0 rfl <|
  s_getf (ct := ct) c45_1 rfl (by decide) rfl <|
  s_iload_n c45_4 rfl <|
  s_callv (args := [.int x1]) (r := []) c45_5 rfl rfl (Nat.le_of_ble_eq_true rfl) rfl ⟨rfl, by decide⟩ he kk
theorem b45_8 {x1 : Int32} {l2 : Value} {l3 : Value} {l4 : Value} {xs0 : Int32} (k1 : xs0 = (nI 0) → RUN X C 45 Q 11 [.ref 26, .int x1, l2, l3, l4] [] (mk D ct)) (k2 : ¬ xs0 = (nI 0) → RUN X C 45 Q 13 [.ref 26, .int x1, l2, l3, l4] [] (mk D ct)) : RUN X C 45 Q 8 [.ref 26, .int x1, l2, l3, l4] [.int xs0] (mk D ct) :=
  s_ifne c45_8 k1 k2
theorem b45_11 {x1 : Int32} {l2 : Value} {l3 : Value} {l4 : Value} (hq : Q (some (.int (nI 0))) (mk D ct)) : RUN X C 45 Q 11 [.ref 26, .int x1, l2, l3, l4] [] (mk D ct) :=
  s_const c45_11 zcI_0 <|
  s_iret c45_12 (xrtI rfl) hq
theorem b45_13 {x1 : Int32} {l2 : Value} {l3 : Value} {l4 : Value} {D1 : zD} {ct1 : zM} {v1 : Int32} {j21 : Nat} (hx21 : zix x1 j21 36) (he : C 43 [.ref 26, .int x1] (mk D ct) (some (.int v1)) (mk D1 ct1)) (kk : RUN X C 45 Q 28 [.ref 26, .int x1, .int (ct 12 j21), l3, l4] [.int v1] (mk D1 ct1)) : RUN X C 45 Q 13 [.ref 26, .int x1, l2, l3, l4] [] (mk D ct) :=
  s_aload_n c45_13 rfl <|
  s_getf (ct := ct) c45_14 rfl (by decide) rfl <|
  s_getf (ct := ct) c45_17 rfl (by decide) rfl <|
  s_iload_n c45_20 rfl <|
  s_iald (ct := ct) c45_21 rfl hx21 <|
  s_istore_n c45_22 (Nat.le_of_ble_eq_true rfl) True.intro <|
  s_aload_n c45_23 rfl <|
  s_iload_n c45_24 rfl <|
  s_callv (args := [.int x1]) (r := []) c45_25 rfl rfl (Nat.le_of_ble_eq_true rfl) rfl ⟨rfl, by decide⟩ he kk
theorem b45_28 {x1 : Int32} {x2 : Int32} {l3 : Value} {l4 : Value} {xs0 : Int32} (k1 : xs0 = x2 → RUN X C 45 Q 34 [.ref 26, .int x1, .int x2, .int xs0, l4] [] (mk D ct)) (k2 : ¬ xs0 = x2 → RUN X C 45 Q 36 [.ref 26, .int x1, .int x2, .int xs0, l4] [] (mk D ct)) : RUN X C 45 Q 28 [.ref 26, .int x1, .int x2, l3, l4] [.int xs0] (mk D ct) :=
  s_istore_n c45_28 (Nat.le_of_ble_eq_true rfl) True.intro <|
  s_iload_n c45_29 rfl <|
  s_iload_n c45_30 rfl <|
  s_icne c45_31 k1 k2
theorem b45_34 {x1 : Int32} {x2 : Int32} {x3 : Int32} {l4 : Value} (hq : Q (some (.int (nI 0))) (mk D ct)) : RUN X C 45 Q 34 [.ref 26, .int x1, .int x2, .int x3, l4] [] (mk D ct) :=
  s_const c45_34 zcI_0 <|
  s_iret c45_35 (xrtI rfl) hq
theorem b45_36 {x1 : Int32} {x2 : Int32} {x3 : Int32} {l4 : Value} {D1 : zD} {ct1 : zM} {v1 : Int32} (he : C 46 [.int x3] (mk D ct) (some (.int v1)) (mk D1 ct1)) (kk : RUN X C 45 Q 40 [.ref 26, .int x1, .int x2, .int x3, l4] [.int v1] (mk D1 ct1)) : RUN X C 45 Q 36 [.ref 26, .int x1, .int x2, .int x3, l4] [] (mk D ct) :=
  s_iload_n c45_36 rfl <|
  s_calls (args := [.int x3]) (r := []) c45_37 rfl rfl (Nat.le_of_ble_eq_true rfl) he kk
theorem b45_40 {x1 : Int32} {x2 : Int32} {x3 : Int32} {l4 : Value} {xs0 : Int32} {D1 : zD} {ct1 : zM} {v1 : Int32} (he : C 46 [.int x2] (mk D ct) (some (.int v1)) (mk D1 ct1)) (kk : RUN X C 45 Q 44 [.ref 26, .int x1, .int x2, .int x3, l4] [.int v1, .int xs0] (mk D1 ct1)) : RUN X C 45 Q 40 [.ref 26, .int x1, .int x2, .int x3, l4] [.int xs0] (mk D ct) :=
  s_iload_n c45_40 rfl <|
  s_calls (args := [.int x2]) (r := [.int xs0]) c45_41 rfl rfl (Nat.le_of_ble_eq_true rfl) he kk
theorem b45_44 {x1 : Int32} {x2 : Int32} {x3 : Int32} {l4 : Value} {xs0 : Int32} {xs1 : Int32} {D1 : zD} {ct1 : zM} {v1 : Int32} (he : C 48 [.ref 11, .int x1, .int (ct 22 4)] (mk D ct) (some (.int v1)) (mk D1 ct1)) (kk : RUN X C 45 Q 68 [.ref 26, .int x1, .int x2, .int x3, .int (if xs0 < xs1 then xs1 else xs0)] [.int v1, .int (nI 5), .int (nI 1), .int (if xs0 < xs1 then xs1 else xs0)] (mk D1 ct1)) : RUN X C 45 Q 44 [.ref 26, .int x1, .int x2, .int x3, l4] [.int xs1, .int xs0] (mk D ct) :=
  s_max c45_44 (Nat.le_of_ble_eq_true rfl) <|
  s_istore c45_47 (Nat.le_of_ble_eq_true rfl) True.intro <|
  s_iload c45_49 rfl <|
  s_const c45_51 zcI_1 <|
  s_const c45_52 zcI_5 <|
  s_aload_n c45_53 rfl <|
  s_getf (ct := ct) c45_54 rfl (by decide) rfl <|
  s_iload_n c45_57 rfl <|
  s_aload_n c45_58 rfl <|
  s_getf (ct := ct) c45_59 rfl (by decide) rfl <|
  s_getf (ct := ct) c45_62 rfl (by decide) rfl <|
  s_callv (args := [.int x1, .int (ct 22 4)]) (r := [.int (nI 5), .int (nI 1), .int (if xs0 < xs1 then xs1 else xs0)]) c45_65 rfl rfl (Nat.le_of_ble_eq_true rfl) rfl ⟨rfl, by decide⟩ he kk
theorem b45_68 {x1 : Int32} {x2 : Int32} {x3 : Int32} {x4 : Int32} {xs0 : Int32} {xs1 : Int32} {xs2 : Int32} {xs3 : Int32} (hq : Q (some (.int (xs0 * (if xs1 < (xs2 - xs3) then (xs2 - xs3) else xs1)))) (mk D ct)) : RUN X C 45 Q 68 [.ref 26, .int x1, .int x2, .int x3, .int x4] [.int xs3, .int xs2, .int xs1, .int xs0] (mk D ct) :=
  s_isub c45_68 <|
  s_max c45_69 (Nat.le_of_ble_eq_true rfl) <|
  s_imul c45_72 <|
  s_iret c45_73 (xrtI rfl) hq
-- ('PaintedTown', 'sizeOf', '(I)I')
theorem b46_0 {x0 : Int32} (k1 : x0 < (nI 0) → RUN X C 46 Q 20 [.int x0] [] (mk D ct)) (k2 : ¬ x0 < (nI 0) → RUN X C 46 Q 4 [.int x0] [] (mk D ct)) : RUN X C 46 Q 0 [.int x0] [] (mk D ct) :=
  s_iload_n c46_0 rfl <|
  s_iflt c46_1 k1 k2
theorem b46_4 {x0 : Int32} (k1 : (nI 8) ≤ x0 → RUN X C 46 Q 20 [.int x0] [] (mk D ct)) (k2 : ¬ (nI 8) ≤ x0 → RUN X C 46 Q 12 [.int x0] [] (mk D ct)) : RUN X C 46 Q 4 [.int x0] [] (mk D ct) :=
  s_iload_n c46_4 rfl <|
  s_gets0 c46_5 <|
  s_alen2 c46_8 <|
  s_icge c46_9 k1 k2
theorem b46_12 {x0 : Int32} {j16 : Nat} (hx16 : zix x0 j16 8) (hq : Q (some (.int (xsz j16))) (mk D ct)) : RUN X C 46 Q 12 [.int x0] [] (mk D ct) :=
  s_gets0 c46_12 <|
  s_iload_n c46_15 rfl <|
  s_sizes c46_16 hx16 <|
  s_goto c46_17 <|
  s_iret c46_21 (xrtI rfl) hq
theorem b46_20 {x0 : Int32} (hq : Q (some (.int (nI 0))) (mk D ct)) : RUN X C 46 Q 20 [.int x0] [] (mk D ct) :=
  s_const c46_20 zcI_0 <|
  s_iret c46_21 (xrtI rfl) hq
-- ('PaintedTown$Painting', 'distance', '(II)I')
theorem b48_0 {a0 : Nat} (ha0 : zsh D a0 = (2, 0)) {x1 : Int32} {x2 : Int32} (k1 : (nI 1) ≤ (ct a0 1) → RUN X C 48 Q 10 [.ref a0, .int x1, .int x2] [] (mk D ct)) (k2 : ¬ (nI 1) ≤ (ct a0 1) → RUN X C 48 Q 8 [.ref a0, .int x1, .int x2] [] (mk D ct)) : RUN X C 48 Q 0 [.ref a0, .int x1, .int x2] [] (mk D ct) :=
  s_aload_n c48_0 rfl <|
  s_getf (ct := ct) c48_1 ha0 (by decide) rfl <|
  s_const c48_4 zcI_1 <|
  s_icge c48_5 k1 k2
theorem b48_8 {a0 : Nat} (ha0 : zsh D a0 = (2, 0)) {x1 : Int32} {x2 : Int32} (hq : Q (some (.int (nI 0))) (mk D ct)) : RUN X C 48 Q 8 [.ref a0, .int x1, .int x2] [] (mk D ct) :=
  s_const c48_8 zcI_0 <|
  s_iret c48_9 (xrtI rfl) hq
theorem b48_10 {a0 : Nat} (ha0 : zsh D a0 = (2, 0)) {x1 : Int32} {x2 : Int32} (hz15 : ¬ (ct a0 1) = 0) (hz21 : ¬ (ct a0 1) = 0) (hz31 : ¬ (ct a0 1) = 0) (hz37 : ¬ (ct a0 1) = 0) (hq : Q (some (.int ((if 0 ≤ ((x1 / (ct a0 1)) - (x2 / (ct a0 1))) then ((x1 / (ct a0 1)) - (x2 / (ct a0 1))) else 0 - ((x1 / (ct a0 1)) - (x2 / (ct a0 1)))) + (if 0 ≤ ((x1 - x1 / (ct a0 1) * (ct a0 1)) - (x2 - x2 / (ct a0 1) * (ct a0 1))) then ((x1 - x1 / (ct a0 1) * (ct a0 1)) - (x2 - x2 / (ct a0 1) * (ct a0 1))) else 0 - ((x1 - x1 / (ct a0 1) * (ct a0 1)) - (x2 - x2 / (ct a0 1) * (ct a0 1))))))) (mk D ct)) : RUN X C 48 Q 10 [.ref a0, .int x1, .int x2] [] (mk D ct) :=
  s_iload_n c48_10 rfl <|
  s_aload_n c48_11 rfl <|
  s_getf (ct := ct) c48_12 ha0 (by decide) rfl <|
  s_idiv c48_15 hz15 <|
  s_iload_n c48_16 rfl <|
  s_aload_n c48_17 rfl <|
  s_getf (ct := ct) c48_18 ha0 (by decide) rfl <|
  s_idiv c48_21 hz21 <|
  s_isub c48_22 <|
  s_abs c48_23 (Nat.le_of_ble_eq_true rfl) <|
  s_iload_n c48_26 rfl <|
  s_aload_n c48_27 rfl <|
  s_getf (ct := ct) c48_28 ha0 (by decide) rfl <|
  s_irem c48_31 hz31 <|
  s_iload_n c48_32 rfl <|
  s_aload_n c48_33 rfl <|
  s_getf (ct := ct) c48_34 ha0 (by decide) rfl <|
  s_irem c48_37 hz37 <|
  s_isub c48_38 <|
  s_abs c48_39 (Nat.le_of_ble_eq_true rfl) <|
  s_iadd c48_42 <|
  s_iret c48_43 (xrtI rfl) hq
-- ('PaintedTown', 'fine', '(I)I')
theorem b50_0 {x1 : Int32} {l2 : Value} (k1 : x1 < (nI 0) → RUN X C 50 Q 9 [.ref 0, .int x1, l2] [] (mk D ct)) (k2 : ¬ x1 < (nI 0) → RUN X C 50 Q 4 [.ref 0, .int x1, l2] [] (mk D ct)) : RUN X C 50 Q 0 [.ref 0, .int x1, l2] [] (mk D ct) :=
  s_iload_n c50_0 rfl <|
  s_iflt c50_1 k1 k2
theorem b50_4 {x1 : Int32} {l2 : Value} (k1 : x1 ≤ (nI 2) → RUN X C 50 Q 11 [.ref 0, .int x1, l2] [] (mk D ct)) (k2 : ¬ x1 ≤ (nI 2) → RUN X C 50 Q 9 [.ref 0, .int x1, l2] [] (mk D ct)) : RUN X C 50 Q 4 [.ref 0, .int x1, l2] [] (mk D ct) :=
  s_iload_n c50_4 rfl <|
  s_const c50_5 zcI_2 <|
  s_icle c50_6 k1 k2
theorem b50_9 {x1 : Int32} {l2 : Value} (hq : Q (some (.int (-1))) (mk D ct)) : RUN X C 50 Q 9 [.ref 0, .int x1, l2] [] (mk D ct) :=
  s_const c50_9 zcI_m1 <|
  s_iret c50_10 (xrtI rfl) hq
theorem b50_11 {x1 : Int32} {l2 : Value} {D1 : zD} {ct1 : zM} (he : C 42 [.ref 0] (mk D ct) none (mk D1 ct1)) (kk : RUN X C 50 Q 15 [.ref 0, .int x1, l2] [] (mk D1 ct1)) : RUN X C 50 Q 11 [.ref 0, .int x1, l2] [] (mk D ct) :=
  s_aload_n c50_11 rfl <|
  s_callv (args := []) (r := []) c50_12 rfl rfl (Nat.le_of_ble_eq_true rfl) rfl ⟨rfl, by decide⟩ he kk
theorem b50_15 {x1 : Int32} {l2 : Value} {D1 : zD} {ct1 : zM} {v1 : Int32} (he : C 51 [.ref 26] (mk D ct) (some (.int v1)) (mk D1 ct1)) (kk : RUN X C 50 Q 22 [.ref 0, .int x1, l2] [.int v1] (mk D1 ct1)) : RUN X C 50 Q 15 [.ref 0, .int x1, l2] [] (mk D ct) :=
  s_aload_n c50_15 rfl <|
  s_getf (ct := ct) c50_16 rfl (by decide) rfl <|
  s_callv (args := []) (r := []) c50_19 rfl rfl (Nat.le_of_ble_eq_true rfl) rfl ⟨rfl, by decide⟩ he kk
theorem b50_22 {x1 : Int32} {l2 : Value} {xs0 : Int32} (k1 : x1 = (nI 0) → RUN X C 50 Q 27 [.ref 0, .int x1, .int xs0] [] (mk D ct)) (k2 : ¬ x1 = (nI 0) → RUN X C 50 Q 29 [.ref 0, .int x1, .int xs0] [] (mk D ct)) : RUN X C 50 Q 22 [.ref 0, .int x1, l2] [.int xs0] (mk D ct) :=
  s_istore_n c50_22 (Nat.le_of_ble_eq_true rfl) True.intro <|
  s_iload_n c50_23 rfl <|
  s_ifne c50_24 k1 k2
theorem b50_27 {x1 : Int32} {x2 : Int32} (hq : Q (some (.int x2)) (mk D ct)) : RUN X C 50 Q 27 [.ref 0, .int x1, .int x2] [] (mk D ct) :=
  s_iload_n c50_27 rfl <|
  s_iret c50_28 (xrtI rfl) hq
theorem b50_29 {x1 : Int32} {x2 : Int32} (k1 : x1 = (nI 1) → RUN X C 50 Q 34 [.ref 0, .int x1, .int x2] [] (mk D ct)) (k2 : ¬ x1 = (nI 1) → RUN X C 50 Q 56 [.ref 0, .int x1, .int x2] [] (mk D ct)) : RUN X C 50 Q 29 [.ref 0, .int x1, .int x2] [] (mk D ct) :=
  s_iload_n c50_29 rfl <|
  s_const c50_30 zcI_1 <|
  s_icne c50_31 k1 k2
theorem b50_34 {x1 : Int32} {x2 : Int32} (k1 : (ct 11 2) < x2 → RUN X C 50 Q 49 [.ref 0, .int x1, .int x2] [] (mk D ct)) (k2 : ¬ (ct 11 2) < x2 → RUN X C 50 Q 45 [.ref 0, .int x1, .int x2] [] (mk D ct)) : RUN X C 50 Q 34 [.ref 0, .int x1, .int x2] [] (mk D ct) :=
  s_iload_n c50_34 rfl <|
  s_aload_n c50_35 rfl <|
  s_getf (ct := ct) c50_36 rfl (by decide) rfl <|
  s_getf (ct := ct) c50_39 rfl (by decide) rfl <|
  s_icgt c50_42 k1 k2
theorem b50_45 {x1 : Int32} {x2 : Int32} {D1 : zD} {ct1 : zM} {v1 : Int32} (he : C 55 [.int (nI 1)] (mk D ct) (some (.int v1)) (mk D1 ct1)) (kk : RUN X C 50 Q 53 [.ref 0, .int x1, .int x2] [.int v1] (mk D1 ct1)) : RUN X C 50 Q 45 [.ref 0, .int x1, .int x2] [] (mk D ct) :=
  s_const c50_45 zcI_1 <|
  s_goto c50_46 <|
  s_calls (args := [.int (nI 1)]) (r := []) c50_50 rfl rfl (Nat.le_of_ble_eq_true rfl) he kk
theorem b50_49 {x1 : Int32} {x2 : Int32} {D1 : zD} {ct1 : zM} {v1 : Int32} (he : C 55 [.int (nI 0)] (mk D ct) (some (.int v1)) (mk D1 ct1)) (kk : RUN X C 50 Q 53 [.ref 0, .int x1, .int x2] [.int v1] (mk D1 ct1)) : RUN X C 50 Q 49 [.ref 0, .int x1, .int x2] [] (mk D ct) :=
  s_const c50_49 zcI_0 <|
  s_calls (args := [.int (nI 0)]) (r := []) c50_50 rfl rfl (Nat.le_of_ble_eq_true rfl) he kk
theorem b50_53 {x1 : Int32} {x2 : Int32} {xs0 : Int32} (hq : Q (some (.int xs0)) (mk D ct)) : RUN X C 50 Q 53 [.ref 0, .int x1, .int x2] [.int xs0] (mk D ct) :=
  s_goto c50_53 <|
  s_iret c50_63 (xrtI rfl) hq
theorem b50_56 {x1 : Int32} {x2 : Int32} (hq : Q (some (.int (ct 26 5))) (mk D ct)) : RUN X C 50 Q 56 [.ref 0, .int x1, .int x2] [] (mk D ct) :=
  s_aload_n c50_56 rfl <|
  s_getf (ct := ct) c50_57 rfl (by decide) rfl <|
  s_getf (ct := ct) c50_60 rfl (by decide) rfl <|
  s_iret c50_63 (xrtI rfl) hq
-- ('PaintedTown$Judge', 'sumUp', '()I')
theorem b51_0 {l1 : Value} (kk : RUN X C 51 Q 17 [.ref 26, .int (nI 0)] [] (mk D (u2 (u2 (u2 ct 26 3 (nI 0)) 26 4 (nI 0)) 26 5 (nI 0)))) : RUN X C 51 Q 0 [.ref 26, l1] [] (mk D ct) :=
  s_aload_n c51_0 rfl <|
  s_const c51_1 zcI_0 <|
  s_putf (ct := ct) c51_2 rfl (by decide) zint_5_3 xfit_5_3 <|
  s_aload_n c51_5 rfl <|
  s_const c51_6 zcI_0 <|
  s_putf (ct := (u2 ct 26 3 (nI 0))) c51_7 rfl (by decide) zint_5_4 xfit_5_4 <|
  s_aload_n c51_10 rfl <|
  s_const c51_11 zcI_0 <|
  s_putf (ct := (u2 (u2 ct 26 3 (nI 0)) 26 4 (nI 0))) c51_12 rfl (by decide) zint_5_5 xfit_5_5 <|
  s_const c51_15 zcI_0 <|
  s_istore_n c51_16 (Nat.le_of_ble_eq_true rfl) True.intro <|
  kk
theorem b51_17 {x1 : Int32} (k1 : (nI 36) ≤ x1 → RUN X C 51 Q 36 [.ref 26, .int x1] [] (mk D ct)) (k2 : ¬ (nI 36) ≤ x1 → RUN X C 51 Q 23 [.ref 26, .int x1] [] (mk D ct)) : RUN X C 51 Q 17 [.ref 26, .int x1] [] (mk D ct) :=
  s_iload_n c51_17 rfl <|
  s_bipush c51_18 zcB_36 <|
  s_icge c51_20 k1 k2
theorem b51_23 {x1 : Int32} {j29 : Nat} (hx29 : zix x1 j29 36) (kk : RUN X C 51 Q 17 [.ref 26, .int (x1 + nI 1)] [] (mk D (u2 ct 27 j29 (nI 0)))) : RUN X C 51 Q 23 [.ref 26, .int x1] [] (mk D ct) :=
  s_aload_n c51_23 rfl <|
  s_getf (ct := ct) c51_24 rfl (by decide) rfl <|
  s_iload_n c51_27 rfl <|
  s_const c51_28 zcI_0 <|
  s_iast (ct := ct) c51_29 rfl hx29 <|
  s_iinc c51_30 rfl True.intro zcI_1 <|
  s_goto c51_33 <|
  kk
theorem b51_36 {x1 : Int32} (kk : RUN X C 51 Q 38 [.ref 26, .int (nI 0)] [] (mk D ct)) : RUN X C 51 Q 36 [.ref 26, .int x1] [] (mk D ct) :=
  s_const c51_36 zcI_0 <|
  s_istore_n c51_37 (Nat.le_of_ble_eq_true rfl) True.intro <|
  kk
theorem b51_38 {x1 : Int32} {D1 : zD} {ct1 : zM} {v1 : Int32} (he : C 36 [.ref 11] (mk D ct) (some (.int v1)) (mk D1 ct1)) (kk : RUN X C 51 Q 46 [.ref 26, .int x1] [.int v1, .int x1] (mk D1 ct1)) : RUN X C 51 Q 38 [.ref 26, .int x1] [] (mk D ct) :=
  s_iload_n c51_38 rfl <|
  s_aload_n c51_39 rfl <|
  s_getf (ct := ct) c51_40 rfl (by decide) rfl <|
  s_callv (args := []) (r := [.int x1]) c51_43 rfl rfl (Nat.le_of_ble_eq_true rfl) rfl ⟨rfl, by decide⟩ he kk
theorem b51_46 {x1 : Int32} {xs0 : Int32} {xs1 : Int32} (k1 : xs1 ≤ xs0 → RUN X C 51 Q 60 [.ref 26, .int x1] [] (mk D ct)) (k2 : ¬ xs1 ≤ xs0 → RUN X C 51 Q 49 [.ref 26, .int x1] [] (mk D ct)) : RUN X C 51 Q 46 [.ref 26, .int x1] [.int xs1, .int xs0] (mk D ct) :=
  s_icge c51_46 k1 k2
theorem b51_49 {x1 : Int32} {D1 : zD} {ct1 : zM} (he : C 52 [.ref 26, .int x1] (mk D ct) none (mk D1 ct1)) (kk : RUN X C 51 Q 54 [.ref 26, .int x1] [] (mk D1 ct1)) : RUN X C 51 Q 49 [.ref 26, .int x1] [] (mk D ct) :=
  s_aload_n c51_49 rfl <|
  s_iload_n c51_50 rfl <|
  s_callv (args := [.int x1]) (r := []) c51_51 rfl rfl (Nat.le_of_ble_eq_true rfl) rfl ⟨rfl, by decide⟩ he kk
theorem b51_54 {x1 : Int32} (kk : RUN X C 51 Q 38 [.ref 26, .int (x1 + nI 1)] [] (mk D ct)) : RUN X C 51 Q 54 [.ref 26, .int x1] [] (mk D ct) :=
  s_iinc c51_54 rfl True.intro zcI_1 <|
  s_goto c51_57 <|
  kk
theorem b51_60 {x1 : Int32} {D1 : zD} {ct1 : zM} {v1 : Int32} (he : C 54 [.ref 26] (mk D ct) (some (.int v1)) (mk D1 ct1)) (kk : RUN X C 51 Q 64 [.ref 26, .int x1] [.int v1] (mk D1 ct1)) : RUN X C 51 Q 60 [.ref 26, .int x1] [] (mk D ct) :=
  s_aload_n c51_60 rfl <|
  s_callv (args := []) (r := []) c51_61 rfl rfl (Nat.le_of_ble_eq_true rfl) rfl ⟨rfl, by decide⟩ he kk
theorem b51_64 {x1 : Int32} {xs0 : Int32} (hq : Q (some (.int xs0)) (mk D ct)) : RUN X C 51 Q 64 [.ref 26, .int x1] [.int xs0] (mk D ct) :=
  s_iret c51_64 (xrtI rfl) hq
-- ('PaintedTown$Judge', 'look', '(I)V')
theorem b52_0 {x1 : Int32} {D1 : zD} {ct1 : zM} {v1 : Int32} (he : C 30 [.ref 11, .int x1] (mk D ct) (some (.int v1)) (mk D1 ct1)) (kk : RUN X C 52 Q 8 [.ref 26, .int x1] [.int v1] (mk D1 ct1)) : RUN X C 52 Q 0 [.ref 26, .int x1] [] (mk D ct) :=
  s_aload_n c52_0 rfl <|
  s_getf (ct := ct) c52_1 rfl (by decide) rfl <|
  s_iload_n c52_4 rfl <|
  s_callv (args := [.int x1]) (r := []) c52_5 rfl rfl (Nat.le_of_ble_eq_true rfl) rfl ⟨rfl, by decide⟩ he kk
theorem b52_8 {x1 : Int32} {xs0 : Int32} (k1 : xs0 = (nI 0) → RUN X C 52 Q 11 [.ref 26, .int x1] [] (mk D ct)) (k2 : ¬ xs0 = (nI 0) → RUN X C 52 Q 12 [.ref 26, .int x1] [] (mk D ct)) : RUN X C 52 Q 8 [.ref 26, .int x1] [.int xs0] (mk D ct) :=
  s_ifne c52_8 k1 k2
theorem b52_11 {x1 : Int32} (hq : Q none (mk D ct)) : RUN X C 52 Q 11 [.ref 26, .int x1] [] (mk D ct) :=
  s_ret c52_11 rfl hq
theorem b52_12 {x1 : Int32} {D1 : zD} {ct1 : zM} {j18 : Nat} (hx18 : zix x1 j18 36) (he : C 53 [.ref 26, .int (ct 27 j18), .int (-1)] (mk D ct) none (mk D1 ct1)) (kk : RUN X C 52 Q 23 [.ref 26, .int x1] [] (mk D1 ct1)) : RUN X C 52 Q 12 [.ref 26, .int x1] [] (mk D ct) :=
  s_aload_n c52_12 rfl <|
  s_aload_n c52_13 rfl <|
  s_getf (ct := ct) c52_14 rfl (by decide) rfl <|
  s_iload_n c52_17 rfl <|
  s_iald (ct := ct) c52_18 rfl hx18 <|
  s_const c52_19 zcI_m1 <|
  s_callv (args := [.int (ct 27 j18), .int (-1)]) (r := []) c52_20 rfl rfl (Nat.le_of_ble_eq_true rfl) rfl ⟨rfl, by decide⟩ he kk
theorem b52_23 {x1 : Int32} {D1 : zD} {ct1 : zM} {v1 : Int32} (he : C 45 [.ref 26, .int x1] (mk D ct) (some (.int v1)) (mk D1 ct1)) (kk : RUN X C 52 Q 33 [.ref 26, .int x1] [.int v1, .int x1, .ref 27] (mk D1 ct1)) : RUN X C 52 Q 23 [.ref 26, .int x1] [] (mk D ct) :=
  s_aload_n c52_23 rfl <|
  s_getf (ct := ct) c52_24 rfl (by decide) rfl <|
  s_iload_n c52_27 rfl <|
  s_aload_n c52_28 rfl <|
  s_iload_n c52_29 rfl <|
  s_callv (args := [.int x1]) (r := [.int x1, .ref 27]) c52_30 rfl rfl (Nat.le_of_ble_eq_true rfl) rfl ⟨rfl, by decide⟩ he kk
theorem b52_33 {x1 : Int32} {xs1 : Int32} {xs2 : Int32} {D1 : zD} {ct1 : zM} {j33 : Nat} (hx33 : zix xs1 j33 36) {j40 : Nat} (hx40 : zix x1 j40 36) (he : C 53 [.ref 26, .int ((u2 ct 27 j33 xs2) 27 j40), .int (nI 1)] (mk D (u2 ct 27 j33 xs2)) none (mk D1 ct1)) (kk : RUN X C 52 Q 45 [.ref 26, .int x1] [] (mk D1 ct1)) : RUN X C 52 Q 33 [.ref 26, .int x1] [.int xs2, .int xs1, .ref 27] (mk D ct) :=
  s_iast (ct := ct) c52_33 rfl hx33 <|
  s_aload_n c52_34 rfl <|
  s_aload_n c52_35 rfl <|
  s_getf (ct := (u2 ct 27 j33 xs2)) c52_36 rfl (by decide) rfl <|
  s_iload_n c52_39 rfl <|
  s_iald (ct := (u2 ct 27 j33 xs2)) c52_40 rfl hx40 <|
  s_const c52_41 zcI_1 <|
  s_callv (args := [.int ((u2 ct 27 j33 xs2) 27 j40), .int (nI 1)]) (r := []) c52_42 rfl rfl (Nat.le_of_ble_eq_true rfl) rfl ⟨rfl, by decide⟩ he kk
theorem b52_45 {x1 : Int32} (hq : Q none (mk D ct)) : RUN X C 52 Q 45 [.ref 26, .int x1] [] (mk D ct) :=
  s_ret c52_45 rfl hq
-- ('PaintedTown$Judge', 'tally', '(II)V')
theorem b53_0 {x1 : Int32} {x2 : Int32} (k1 : x1 = (nI 0) → RUN X C 53 Q 4 [.ref 26, .int x1, .int x2] [] (mk D ct)) (k2 : ¬ x1 = (nI 0) → RUN X C 53 Q 5 [.ref 26, .int x1, .int x2] [] (mk D ct)) : RUN X C 53 Q 0 [.ref 26, .int x1, .int x2] [] (mk D ct) :=
  s_iload_n c53_0 rfl <|
  s_ifne c53_1 k1 k2
theorem b53_4 {x1 : Int32} {x2 : Int32} (hq : Q none (mk D ct)) : RUN X C 53 Q 4 [.ref 26, .int x1, .int x2] [] (mk D ct) :=
  s_ret c53_4 rfl hq
theorem b53_5 {x1 : Int32} {x2 : Int32} (k1 : (nI 3) < x1 → RUN X C 53 Q 35 [.ref 26, .int x1, .int x2] [] (mk D (u2 ct 26 5 ((ct 26 5) + x2)))) (k2 : ¬ (nI 3) < x1 → RUN X C 53 Q 20 [.ref 26, .int x1, .int x2] [] (mk D (u2 ct 26 5 ((ct 26 5) + x2)))) : RUN X C 53 Q 5 [.ref 26, .int x1, .int x2] [] (mk D ct) :=
  s_aload_n c53_5 rfl <|
  s_dup c53_6 rfl <|
  s_getf (ct := ct) c53_7 rfl (by decide) rfl <|
  s_iload_n c53_10 rfl <|
  s_iadd c53_11 <|
  s_putf (ct := ct) c53_12 rfl (by decide) zint_5_5 xfit_5_5 <|
  s_iload_n c53_15 rfl <|
  s_const c53_16 zcI_3 <|
  s_icgt c53_17 k1 k2
theorem b53_20 {x1 : Int32} {x2 : Int32} (hq : Q none (mk D (u2 ct 26 3 ((ct 26 3) + (x2 * x1))))) : RUN X C 53 Q 20 [.ref 26, .int x1, .int x2] [] (mk D ct) :=
  s_aload_n c53_20 rfl <|
  s_dup c53_21 rfl <|
  s_getf (ct := ct) c53_22 rfl (by decide) rfl <|
  s_iload_n c53_25 rfl <|
  s_iload_n c53_26 rfl <|
  s_imul c53_27 <|
  s_iadd c53_28 <|
  s_putf (ct := ct) c53_29 rfl (by decide) zint_5_3 xfit_5_3 <|
  s_goto c53_32 <|
  s_ret c53_47 rfl hq
theorem b53_35 {x1 : Int32} {x2 : Int32} (hq : Q none (mk D (u2 ct 26 4 ((ct 26 4) + (x2 * x1))))) : RUN X C 53 Q 35 [.ref 26, .int x1, .int x2] [] (mk D ct) :=
  s_aload_n c53_35 rfl <|
  s_dup c53_36 rfl <|
  s_getf (ct := ct) c53_37 rfl (by decide) rfl <|
  s_iload_n c53_40 rfl <|
  s_iload_n c53_41 rfl <|
  s_imul c53_42 <|
  s_iadd c53_43 <|
  s_putf (ct := ct) c53_44 rfl (by decide) zint_5_4 xfit_5_4 <|
  s_ret c53_47 rfl hq
-- ('PaintedTown$Judge', 'sum', '()I')
theorem b54_0 (hq : Q (some (.int ((ct 26 4) + ((ct 26 3) / (nI 3))))) (mk D ct)) : RUN X C 54 Q 0 [.ref 26] [] (mk D ct) :=
  s_aload_n c54_0 rfl <|
  s_getf (ct := ct) c54_1 rfl (by decide) rfl <|
  s_aload_n c54_4 rfl <|
  s_getf (ct := ct) c54_5 rfl (by decide) rfl <|
  s_const c54_8 zcI_3 <|
  s_idiv c54_9 (by decide) <|
  s_iadd c54_10 <|
  s_iret c54_11 (xrtI rfl) hq
-- ('PaintedTown', 'bit', '(Z)I')
theorem b55_0 {x0 : Int32} (k1 : x0 = (nI 0) → RUN X C 55 Q 8 [.int x0] [] (mk D ct)) (k2 : ¬ x0 = (nI 0) → RUN X C 55 Q 4 [.int x0] [] (mk D ct)) : RUN X C 55 Q 0 [.int x0] [] (mk D ct) :=
  s_iload_n c55_0 rfl <|
  s_ifeq c55_1 k1 k2
theorem b55_4 {x0 : Int32} (hq : Q (some (.int (nI 1))) (mk D ct)) : RUN X C 55 Q 4 [.int x0] [] (mk D ct) :=
  s_const c55_4 zcI_1 <|
  s_goto c55_5 <|
  s_iret c55_9 (xrtI rfl) hq
theorem b55_8 {x0 : Int32} (hq : Q (some (.int (nI 0))) (mk D ct)) : RUN X C 55 Q 8 [.int x0] [] (mk D ct) :=
  s_const c55_8 zcI_0 <|
  s_iret c55_9 (xrtI rfl) hq
end
