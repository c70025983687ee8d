/-! The class made: its cells. -/
def hZ : xHp := (0, 0, fun _ => none)
def o0 : xC := .inr (0, [.null, .null, .null, .null, .null, .null, .null, .null, .null, .null, .int 0])
def oS : xC := .inr (1, [.null, .int 0, .null, .null, .null, .int 0, .int 0])
def lS : List xC := [.inr (1, [.ref 2, .int 0, .ref 3, .ref 6, .ref 10, .int 0, .int 0]), .inl (1, 200, .inl fun _ => 0), .inr (2, [.int 0, .int 0, .int 0, .ref 4, .ref 5]), iA 36, iA 4, .inr (3, [.ref 7, .ref 8, .ref 9, .int 0, .int 0, .int 0]), iA 36, iA 36, bA 36, iA 4]
section
variable {X : Nat × (Nat → Int32)} {d : Nat}
set_option maxHeartbeats 4000000 in
theorem m2c : EV X (d + 2) 2 [.ref 1] (hX hZ [o0, oS] 18) none (hX hZ (o0 :: lS) 381) := by
  refine EV_intro (Nat.le_of_ble_eq_true rfl) (s_aload_n c2_0 rfl <| s_obj c2_1 (Nat.le_of_ble_eq_true rfl) <| s_aload_n c2_4 rfl <| s_sipush c2_5 zcS_200 <| l_newa (a := 2) c2_8 (Nat.le_of_ble_eq_true rfl) rfl <| ?_)
  refine l_put (p := 1) c2_10 rfl rfl (Nat.le_of_ble_eq_true rfl) (@xr_1_0 _) <| ?_
  refine s_aload_n c2_13 rfl <| s_const c2_14 zcI_0 <| l_put (p := 1) c2_15 rfl rfl (Nat.le_of_ble_eq_true rfl) (@xfit_1_1 _) <| ?_
  refine s_aload_n c2_18 rfl <| l_new (a := 3) c2_19 rfl rfl <| s_dup c2_22 rfl <| s_init (args := []) (b := 3) (r := [.ref 3, .ref 1]) c2_23 rfl rfl (Nat.le_of_ble_eq_true rfl) (m3 (N := 4) (p := 3) rfl rfl rfl) <| ?_
  refine l_put (p := 1) c2_26 rfl rfl (Nat.le_of_ble_eq_true rfl) (@xr_1_2 _) <| ?_
  refine s_aload_n c2_29 rfl <| l_new (a := 6) c2_30 rfl rfl <| s_dup c2_33 rfl <| s_init (args := []) (b := 6) (r := [.ref 6, .ref 1]) c2_34 rfl rfl (Nat.le_of_ble_eq_true rfl) (m4 (N := 7) (p := 6) rfl rfl rfl) <| ?_
  refine l_put (p := 1) c2_37 rfl rfl (Nat.le_of_ble_eq_true rfl) (@xr_1_3 _) <| ?_
  refine s_aload_n c2_40 rfl <| s_const c2_41 zcI_4 <| l_newa (a := 10) c2_42 (Nat.le_of_ble_eq_true rfl) rfl <| ?_
  refine l_put (p := 1) c2_44 rfl rfl (Nat.le_of_ble_eq_true rfl) (@xr_1_4 _) <| ?_
  refine s_aload_n c2_47 rfl <| s_const c2_48 zcI_0 <| l_put (p := 1) c2_49 rfl rfl (Nat.le_of_ble_eq_true rfl) (@xfit_1_5 _) <| ?_
  refine s_aload_n c2_52 rfl <| s_const c2_53 zcI_0 <| l_put (p := 1) c2_54 rfl rfl (Nat.le_of_ble_eq_true rfl) (xfit_1_6 (Or.inl rfl)) <| ?_
  exact s_ret c2_57 rfl ⟨rfl, rfl⟩
end
