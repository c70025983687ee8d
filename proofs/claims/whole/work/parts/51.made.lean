/-! Things made: the first letters read off the constant text; cells as a list. -/
theorem c13_0 : xCD 13 0 = some (.iload_n 0, []) := rfl
theorem c13_1 : xCD 13 1 = some (.iload_n 1, []) := rfl
theorem c13_2 : xCD 13 2 = some (.getstatic 1053, [2, 129]) := rfl
theorem c13_5 : xCD 13 5 = some (.invokestatic 1059, [14, 3, 0, 130, 133, 131, 132]) := rfl
theorem c13_8 : xCD 13 8 = some (.pop, []) := rfl
theorem c13_9 : xCD 13 9 = some (.return_, []) := rfl
theorem c14_0 : xCD 14 0 = some (.iload_n 0, []) := rfl
theorem c14_1 : xCD 14 1 = some (.ifCond .lt 8, [9]) := rfl
theorem c14_4 : xCD 14 4 = some (.iload_n 0, []) := rfl
theorem c14_5 : xCD 14 5 = some (.iload_n 1, []) := rfl
theorem c14_6 : xCD 14 6 = some (.if_icmp .lt 10, [16]) := rfl
theorem c14_16 : xCD 14 16 = some (.iload_n 0, []) := rfl
theorem c14_17 : xCD 14 17 = some (.ireturn, []) := rfl
theorem zcS_255 : (Int16.ofInt 255).toInt32 = nI 255 := by decide
section
variable {X : Nat × (Nat → Int32)} {C : Nat → List Value → xHp → Option Value → xHp → Prop} {m : Nat} {Q : Option Value → xHp → Prop} {pc : Nat} {ls st r : List Value} {h : xHp} {nf : List Nat}
theorem s_strv {i w : Nat} (hc : xCD m pc = some (.getfield i, [0, w])) (kk : RUN X C m Q (pc + 3) ls (.retAddr 1 :: r) h) : RUN X C m Q pc ls (.retAddr 0 :: r) h := (RUN_iff hc).mpr (by
  show if (0 : Nat) = 0 then RUN X C m Q (pc + 3) ls (.retAddr 1 :: r) h else RUN X C m Q (pc + 3) ls (.int 0 :: r) h
  rw [if_pos rfl]
  exact kk)
theorem s_strc {i w : Nat} (hc : xCD m pc = some (.getfield i, [1, w])) (kk : RUN X C m Q (pc + 3) ls (.int (nI 0) :: r) h) : RUN X C m Q pc ls (.retAddr 0 :: r) h := (RUN_iff hc).mpr (by
  show if (1 : Nat) = 0 then RUN X C m Q (pc + 3) ls (.retAddr 1 :: r) h else RUN X C m Q (pc + 3) ls (.int 0 :: r) h
  rw [if_neg (by decide)]
  exact kk)
theorem s_callt {i m2 n w0 w1 w2 w3 w4 w5 : Nat} {args : List Value} {v : Option Value} {h1 : xHp} (hc : xCD m pc = some (.invokevirtual i, [m2, n, w0, w1, w2, w3, w4, w5])) (hst : st = args.reverse ++ .retAddr 0 :: r) (hn : args.length = n) (hr : xcat r ≤ 8) (h8 : xmc m2 = 8) (he : C m2 (.retAddr 0 :: args) h v h1) (kk : RUN X C m Q (pc + 3) ls (v.toList ++ r) h1) : RUN X C m Q pc ls st h := (RUN_iff hc).mpr (by
  subst hst hn
  show xv1 (List.drop args.length (args.reverse ++ .retAddr 0 :: r)) _
  rw [← List.length_reverse (as := args), List.drop_left, List.take_left, List.reverse_reverse]
  exact ⟨hr, h8, v, h1, he, kk⟩)
end
theorem xby_ok : ∀ j, j < 91 → xby j = nI (xby j).toNatClampNeg ∧ 32 ≤ (xby j).toNatClampNeg ∧ (xby j).toNatClampNeg ≤ 126 ∧ ((xby j &&& nI 255).toUInt32 % 65536).toInt32 = xby j ∧ (xby j).toUInt32.toUInt16.toUInt32.toInt32 = xby j := by decide +kernel
section
variable {X : Nat × (Nat → Int32)} {d : Nat} {h : xHp}
theorem e9 : EV X (d + 1) 9 [.retAddr 0] h (some (.int (nI 0))) h :=
  EV_intro (Nat.le_of_ble_eq_true rfl) (s_gets1 c9_0 <| s_ifeq c9_3 (fun z => absurd z (by decide)) fun _ => s_aloadr_n c9_6 rfl <| s_strc c9_7 <| s_goto c9_10 <| s_iret c9_14 rfl ⟨rfl, rfl⟩)
theorem e8 : EV X (d + 2) 8 [.retAddr 0] h (some (.int (nI 91))) h :=
  EV_intro (Nat.le_of_ble_eq_true rfl) (s_aloadr_n c8_0 rfl <| s_strv c8_1 <| s_alen1 c8_4 <| s_aloadr_n c8_5 rfl <| s_callt (args := []) (r := [.int (nI 91)]) c8_6 rfl rfl (Nat.le_of_ble_eq_true rfl) rfl e9 <| s_ishr c8_9 <| s_iret c8_10 (xrtI rfl) ⟨by decide, rfl⟩)
theorem e11 : EV X (d + 1) 11 [.retAddr 0] h (some (.int (nI 1))) h :=
  EV_intro (Nat.le_of_ble_eq_true rfl) (s_gets1 c11_0 <| s_ifeq c11_3 (fun z => absurd z (by decide)) fun _ => s_aloadr_n c11_6 rfl <| s_strc c11_7 <| s_ifne c11_10 (fun _ => s_const c11_13 zcI_1 <| s_goto c11_14 <| s_iret c11_18 (xrtZ rfl (Or.inr rfl)) ⟨rfl, rfl⟩) fun z => absurd rfl z)
theorem e14 {v2 : Value} {j : Nat} (h2 : v2 = .null ∨ v2 = .retAddr 3) (hj : j < 91) : EV X (d + 1) 14 [.int (nI j), .int (nI 91), v2] h (some (.int (nI j))) h := by
  rcases h2 with rfl | rfl
  · exact EV_intro (Nat.le_of_ble_eq_true rfl) (s_iload_n c14_0 rfl <| s_iflt c14_1 (fun z => absurd z (nI_nlt (by omega) (by omega))) fun _ => s_iload_n c14_4 rfl <| s_iload_n c14_5 rfl <| s_iclt c14_6 (fun _ => s_iload_n c14_16 rfl <| s_iret c14_17 (xrtI rfl) ⟨rfl, rfl⟩) fun z => absurd ((zlt (by omega) (by omega)).2 hj) z)
  · exact EV_intro (Nat.le_of_ble_eq_true rfl) (s_iload_n c14_0 rfl <| s_iflt c14_1 (fun z => absurd z (nI_nlt (by omega) (by omega))) fun _ => s_iload_n c14_4 rfl <| s_iload_n c14_5 rfl <| s_iclt c14_6 (fun _ => s_iload_n c14_16 rfl <| s_iret c14_17 (xrtI rfl) ⟨rfl, rfl⟩) fun z => absurd ((zlt (by omega) (by omega)).2 hj) z)
theorem xnf_or {X : Nat × (Nat → Int32)} : xnf X = .null ∨ xnf X = .retAddr 3 := by
  unfold xnf
  split
  · exact Or.inl rfl
  · exact Or.inr rfl
theorem e13 {j : Nat} (hj : j < 91) : EV X (d + 2) 13 [.int (nI j), .int (nI 91)] h none h :=
  EV_intro (Nat.le_of_ble_eq_true rfl) (s_iload_n c13_0 rfl <| s_iload_n c13_1 rfl <| s_gets2 c13_2 <| s_calls (args := [.int (nI j), .int (nI 91), xnf X]) (r := []) c13_5 rfl rfl (Nat.le_of_ble_eq_true rfl) (e14 xnf_or hj) <| s_pop c13_8 rfl <| s_ret c13_9 rfl ⟨rfl, rfl⟩)
theorem e12 {j : Nat} (hj : j < 91) : EV X (d + 3) 12 [.retAddr 1, .int (nI j)] h (some (.int (xby j))) h := by
  obtain ⟨q1, q2, q3, q4, q5⟩ := xby_ok j hj
  refine EV_intro (Nat.le_of_ble_eq_true rfl) (s_iload_n c12_0 rfl <| s_aloadr_n c12_1 rfl <| s_alen1 c12_2 <| s_calls (args := [.int (nI j), .int (nI 91)]) (r := []) c12_3 rfl rfl (Nat.le_of_ble_eq_true rfl) (e13 hj) <| s_aloadr_n c12_6 rfl <| s_iload_n c12_7 rfl <| s_text c12_8 (zix_nI hj (by decide)) <| s_sipush c12_9 zcS_255 <| s_iand c12_12 <| s_i2c c12_13 <| s_iret c12_14 ?_ ⟨by rw [q4], rfl⟩)
  rw [q4]
  exact congrArg Value.int q5
theorem e10 {j : Nat} (hj : j < 91) : EV X (d + 4) 10 [.retAddr 0, .int (nI j)] h (some (.int (xby j))) h := by
  obtain ⟨q1, q2, q3, q4, q5⟩ := xby_ok j hj
  refine EV_intro (Nat.le_of_ble_eq_true rfl) (s_aloadr_n c10_0 rfl <| s_callt (args := []) (r := []) c10_1 rfl rfl (Nat.le_of_ble_eq_true rfl) rfl e11 <| s_ifeq c10_4 (fun z => absurd z (by decide)) fun _ => s_aloadr_n c10_7 rfl <| s_strv c10_8 <| s_iload_n c10_11 rfl <| s_calls (args := [.retAddr 1, .int (nI j)]) (r := []) c10_12 rfl rfl (Nat.le_of_ble_eq_true rfl) (e12 hj) <| s_iret c10_15 ?_ ⟨rfl, rfl⟩)
  exact congrArg Value.int q5
end
