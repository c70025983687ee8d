section
variable {X : Nat × (Nat → Int32)} {d a p N k : Nat} {h0 : xHp} {L : List xC}
theorem m7 {x y z : Nat} (hN : N = h0.1 + L.length) (ha : a = h0.1 + p) (h : L[p]? = some (.inr (6, [.null, .null, .null, .null, .null, .int 0, .int 0, .int 0, .int 0]))) : EV X (d + 1) 7 [.ref a, .ref x, .ref y, .ref z] (hX h0 L k) none (hX h0 (L.set p (.inr (6, [.ref x, .ref y, .ref z, .ref N, .ref (N + 1), .int 0, .int 0, .int 0, .int 0])) ++ [iA 3] ++ [iA 3]) (k + 3 + 3)) := by
  refine EV_intro (Nat.le_of_ble_eq_true rfl) (s_aload_n c7_0 rfl <| s_obj c7_1 (by decide) <| s_aload_n c7_4 rfl <| s_const c7_5 zcI_3 <| l_newa c7_6 (by decide) hN <| l_put c7_8 ha (gA h) (Nat.le_of_ble_eq_true rfl) (@xr_6_3 _) <| ?_)
  rw [sA h]
  refine s_aload_n c7_11 rfl <| s_const c7_12 zcI_3 <| l_newa (a := N + 1) c7_13 (by decide) (by rw [List.length_append, List.length_set, hN]; rfl) <| l_put c7_15 ha (gA (gA (gS h))) (Nat.le_of_ble_eq_true rfl) (@xr_6_4 _) <| ?_
  rw [sA (gA (gS h)), sA (gS h), List.set_set]
  refine s_aload_n c7_18 rfl <| s_const c7_19 zcI_0 <| l_put c7_20 ha (gA (gA (gS h))) (Nat.le_of_ble_eq_true rfl) (xfit_6_5 (Or.inl rfl)) <| ?_
  rw [sA (gA (gS h)), sA (gS h), List.set_set]
  refine s_aload_n c7_23 rfl <| s_const c7_24 zcI_0 <| l_put c7_25 ha (gA (gA (gS h))) (Nat.le_of_ble_eq_true rfl) (xfit_6_6 (Or.inl rfl)) <| ?_
  rw [sA (gA (gS h)), sA (gS h), List.set_set]
  refine s_aload_n c7_28 rfl <| s_const c7_29 zcI_0 <| l_put c7_30 ha (gA (gA (gS h))) (Nat.le_of_ble_eq_true rfl) xfit_6_7 <| ?_
  rw [sA (gA (gS h)), sA (gS h), List.set_set]
  refine s_aload_n c7_33 rfl <| s_const c7_34 zcI_0 <| l_put c7_35 ha (gA (gA (gS h))) (Nat.le_of_ble_eq_true rfl) xfit_6_8 <| ?_
  rw [sA (gA (gS h)), sA (gS h), List.set_set]
  refine s_aload_n c7_38 rfl <| s_aload_n c7_39 rfl <| l_put c7_40 ha (gA (gA (gS h))) (Nat.le_of_ble_eq_true rfl) (@xr_6_0 _) <| ?_
  rw [sA (gA (gS h)), sA (gS h), List.set_set]
  refine s_aload_n c7_43 rfl <| s_aload_n c7_44 rfl <| l_put c7_45 ha (gA (gA (gS h))) (Nat.le_of_ble_eq_true rfl) (@xr_6_1 _) <| ?_
  rw [sA (gA (gS h)), sA (gS h), List.set_set]
  refine s_aload_n c7_48 rfl <| s_aload_n c7_49 rfl <| l_put c7_50 ha (gA (gA (gS h))) (Nat.le_of_ble_eq_true rfl) (@xr_6_2 _) <| ?_
  rw [sA (gA (gS h)), sA (gS h), List.set_set]
  exact s_ret c7_53 rfl ⟨rfl, rfl⟩
end
