/-! The class made: its constructor. -/
def l0 : List xC := [.inr (0, [.ref 1, .ref 11, .ref 14, .ref 18, .ref 20, .ref 22, .ref 26, .ref 28, .ref 31, .ref 32, .int 0])] ++ lS ++ [.inr (2, [.int 0, .int 0, .int 0, .ref 12, .ref 13]), iA 36, iA 4, .inr (3, [.ref 15, .ref 16, .ref 17, .int 0, .int 0, .int 0]), iA 36, iA 36, bA 36, .inr (4, [.ref 19, .int 0, .int 0]), .inl (3, 8, .inr fun _ => none), .inr (4, [.ref 21, .int 0, .int 0]), .inl (3, 8, .inr fun _ => none), .inr (3, [.ref 23, .ref 24, .ref 25, .int 0, .int 0, .int 0]), iA 36, iA 36, bA 36, .inr (5, [.ref 11, .ref 22, .ref 27, .int 0, .int 0, .int 0]), iA 36, .inr (6, [.ref 11, .ref 22, .ref 26, .ref 29, .ref 30, .int 0, .int 0, .int 0, .int 0]), iA 3, iA 3, iA 6, iA 6]
def D0 : zD := (0, (fun _ => none), fun _ => none)
def c0 : zM := fun _ _ => 0
set_option maxRecDepth 20000 in
theorem hX_0 : hX hZ l0 745 = mk D0 c0 := by
  refine Prod.ext rfl (Prod.ext rfl (funext fun a => ?_))
  show (if a < 0 then none else l0[a - 0]?) = zc D0 a (c0 a)
  rw [if_neg (Nat.not_lt_zero _), Nat.sub_zero]
  by_cases h : a < 33
  · rcases (show a = 0 ∨ a = 1 ∨ a = 2 ∨ a = 3 ∨ a = 4 ∨ a = 5 ∨ a = 6 ∨ a = 7 ∨ a = 8 ∨ a = 9 ∨ a = 10 ∨ a = 11 ∨ a = 12 ∨ a = 13 ∨ a = 14 ∨ a = 15 ∨ a = 16 ∨ a = 17 ∨ a = 18 ∨ a = 19 ∨ a = 20 ∨ a = 21 ∨ a = 22 ∨ a = 23 ∨ a = 24 ∨ a = 25 ∨ a = 26 ∨ a = 27 ∨ a = 28 ∨ a = 29 ∨ a = 30 ∨ a = 31 ∨ a = 32 by omega) with rfl | rfl | rfl | rfl | rfl | rfl | rfl | rfl | rfl | rfl | rfl | rfl | rfl | rfl | rfl | rfl | rfl | rfl | rfl | rfl | rfl | rfl | rfl | rfl | rfl | rfl | rfl | rfl | rfl | rfl | rfl | rfl | rfl <;> rfl
  · rw [List.getElem?_eq_none (show l0.length ≤ a from Nat.not_lt.mp h)]
    have e : zsh D0 a = (99, 0) := by unfold zsh; rw [if_neg h]; rfl
    unfold zc
    rw [e]
    rfl
def tt : Nat → Nat := fun j => (xby j).toNatClampNeg
def p0 : Nat → Int32 := (prd 91 tt 200 (pd0, true) 0).2
def σ0 : zM := sLay (fun _ _ => nI 0) p0
set_option maxRecDepth 20000 in
theorem LY0 : LY 91 tt = some p0 := by
  have h1 : (prd 91 tt 200 (pd0, true) 0).1 = none := by decide +kernel
  have h2 : ¬ prc p0 ≤ (p0 8).toNatClampNeg := by decide +kernel
  unfold LY
  rw [if_neg (by decide), h1]
  dsimp only
  exact if_neg h2
theorem WF0 : WF σ0 := WF_lay (σ := fun _ _ => nI 0) ⟨rfl, by decide⟩ (fun j hj => absurd hj (Nat.not_lt_zero _)) (LY_w LY0) (LY_v LY0)
section
variable {X : Nat × (Nat → Int32)} {d : Nat}
set_option maxHeartbeats 4000000 in
theorem r0_a {Q : Option Value → xHp → Prop} (kk : RUN X (EV X (d + 2)) 0 Q 133 [.ref 0, .double 0] [] (mk D0 c0)) : RUN X (EV X (d + 2)) 0 Q 0 [.ref 0, .double 0] [] (hX hZ [o0] 11) := by
  refine s_aload_n c0_0 rfl <| s_obj c0_1 (Nat.le_of_ble_eq_true rfl) <| ?_
  refine s_aload_n c0_4 rfl <| l_new (a := 1) c0_5 rfl rfl <| s_dup c0_8 rfl <| s_init (args := []) (b := 1) (r := [.ref 1, .ref 0]) c0_9 rfl rfl (Nat.le_of_ble_eq_true rfl) (m2c (d := d)) <| ?_
  refine l_put (p := 0) c0_12 rfl rfl (Nat.le_of_ble_eq_true rfl) (@xr_0_0 _) <| ?_
  refine s_aload_n c0_15 rfl <| l_new (a := 11) c0_16 rfl rfl <| s_dup c0_19 rfl <| s_init (args := []) (b := 11) (r := [.ref 11, .ref 0]) c0_20 rfl rfl (Nat.le_of_ble_eq_true rfl) (m3 (N := 12) (p := 11) rfl rfl rfl) <| ?_
  refine l_put (p := 0) c0_23 rfl rfl (Nat.le_of_ble_eq_true rfl) (@xr_0_1 _) <| ?_
  refine s_aload_n c0_26 rfl <| l_new (a := 14) c0_27 rfl rfl <| s_dup c0_30 rfl <| s_init (args := []) (b := 14) (r := [.ref 14, .ref 0]) c0_31 rfl rfl (Nat.le_of_ble_eq_true rfl) (m4 (N := 15) (p := 14) rfl rfl rfl) <| ?_
  refine l_put (p := 0) c0_34 rfl rfl (Nat.le_of_ble_eq_true rfl) (@xr_0_2 _) <| ?_
  refine s_aload_n c0_37 rfl <| l_new (a := 18) c0_38 rfl rfl <| s_dup c0_41 rfl <| s_init (args := []) (b := 18) (r := [.ref 18, .ref 0]) c0_42 rfl rfl (Nat.le_of_ble_eq_true rfl) (m5 (N := 19) (p := 18) rfl rfl rfl) <| ?_
  refine l_put (p := 0) c0_45 rfl rfl (Nat.le_of_ble_eq_true rfl) (@xr_0_3 _) <| ?_
  refine s_aload_n c0_48 rfl <| l_new (a := 20) c0_49 rfl rfl <| s_dup c0_52 rfl <| s_init (args := []) (b := 20) (r := [.ref 20, .ref 0]) c0_53 rfl rfl (Nat.le_of_ble_eq_true rfl) (m5 (N := 21) (p := 20) rfl rfl rfl) <| ?_
  refine l_put (p := 0) c0_56 rfl rfl (Nat.le_of_ble_eq_true rfl) (@xr_0_4 _) <| ?_
  refine s_aload_n c0_59 rfl <| l_new (a := 22) c0_60 rfl rfl <| s_dup c0_63 rfl <| s_init (args := []) (b := 22) (r := [.ref 22, .ref 0]) c0_64 rfl rfl (Nat.le_of_ble_eq_true rfl) (m4 (N := 23) (p := 22) rfl rfl rfl) <| ?_
  refine l_put (p := 0) c0_67 rfl rfl (Nat.le_of_ble_eq_true rfl) (@xr_0_5 _) <| ?_
  refine s_aload_n c0_70 rfl <| l_new (a := 26) c0_71 rfl rfl <| s_dup c0_74 rfl <| s_aload_n c0_75 rfl <| l_get (p := 0) (v := .ref 11) c0_76 rfl rfl rfl <| s_aload_n c0_79 rfl <| l_get (p := 0) (v := .ref 22) c0_80 rfl rfl rfl <| s_init (args := [.ref 11, .ref 22]) (b := 26) (r := [.ref 26, .ref 0]) c0_83 rfl rfl (Nat.le_of_ble_eq_true rfl) (m6 (N := 27) (p := 26) rfl rfl rfl) <| ?_
  refine l_put (p := 0) c0_86 rfl rfl (Nat.le_of_ble_eq_true rfl) (@xr_0_6 _) <| ?_
  refine s_aload_n c0_89 rfl <| l_new (a := 28) c0_90 rfl rfl <| s_dup c0_93 rfl <| s_aload_n c0_94 rfl <| l_get (p := 0) (v := .ref 11) c0_95 rfl rfl rfl <| s_aload_n c0_98 rfl <| l_get (p := 0) (v := .ref 22) c0_99 rfl rfl rfl <| s_aload_n c0_102 rfl <| l_get (p := 0) (v := .ref 26) c0_103 rfl rfl rfl <| s_init (args := [.ref 11, .ref 22, .ref 26]) (b := 28) (r := [.ref 28, .ref 0]) c0_106 rfl rfl (Nat.le_of_ble_eq_true rfl) (m7 (N := 29) (p := 28) rfl rfl rfl) <| ?_
  refine l_put (p := 0) c0_109 rfl rfl (Nat.le_of_ble_eq_true rfl) (@xr_0_7 _) <| ?_
  refine s_aload_n c0_112 rfl <| s_bipush c0_113 zcB_6 <| l_newa (a := 31) c0_115 (Nat.le_of_ble_eq_true rfl) rfl <| l_put (p := 0) c0_117 rfl rfl (Nat.le_of_ble_eq_true rfl) (@xr_0_8 _) <| ?_
  refine s_aload_n c0_120 rfl <| s_bipush c0_121 zcB_6 <| l_newa (a := 32) c0_123 (Nat.le_of_ble_eq_true rfl) rfl <| l_put (p := 0) c0_125 rfl rfl (Nat.le_of_ble_eq_true rfl) (@xr_0_9 _) <| ?_
  refine s_aload_n c0_128 rfl <| s_const c0_129 zcI_0 <| l_put (p := 0) c0_130 rfl rfl (Nat.le_of_ble_eq_true rfl) (@xfit_0_10 _) <| ?_
  have e : RUN X (EV X (d + 2)) 0 Q 133 [.ref 0, .double 0] [] (hX hZ l0 745) := by rw [hX_0]; exact kk
  exact e
end
