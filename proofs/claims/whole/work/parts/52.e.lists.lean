section
variable {X : Nat × (Nat → Int32)} {d a p N k : Nat} {h0 : xHp} {L : List xC}
theorem m6 {x y : Nat} (hN : N = h0.1 + L.length) (ha : a = h0.1 + p) (h : L[p]? = some (.inr (5, [.null, .null, .null, .int 0, .int 0, .int 0]))) : EV X (d + 1) 6 [.ref a, .ref x, .ref y] (hX h0 L k) none (hX h0 (L.set p (.inr (5, [.ref x, .ref y, .ref N, .int 0, .int 0, .int 0])) ++ [iA 36]) (k + 36)) := by
  refine EV_intro (Nat.le_of_ble_eq_true rfl) (s_aload_n c6_0 rfl <| s_obj c6_1 (by decide) <| s_aload_n c6_4 rfl <| s_bipush c6_5 zcB_36 <| l_newa c6_7 (by decide) hN <| l_put c6_9 ha (gA h) (Nat.le_of_ble_eq_true rfl) (@xr_5_2 _) <| ?_)
  rw [sA h]
  refine s_aload_n c6_12 rfl <| s_const c6_13 zcI_0 <| l_put c6_14 ha (gA (gS h)) (Nat.le_of_ble_eq_true rfl) xfit_5_3 <| ?_
  rw [sA (gS h), List.set_set]
  refine s_aload_n c6_17 rfl <| s_const c6_18 zcI_0 <| l_put c6_19 ha (gA (gS h)) (Nat.le_of_ble_eq_true rfl) xfit_5_4 <| ?_
  rw [sA (gS h), List.set_set]
  refine s_aload_n c6_22 rfl <| s_const c6_23 zcI_0 <| l_put c6_24 ha (gA (gS h)) (Nat.le_of_ble_eq_true rfl) xfit_5_5 <| ?_
  rw [sA (gS h), List.set_set]
  refine s_aload_n c6_27 rfl <| s_aload_n c6_28 rfl <| l_put c6_29 ha (gA (gS h)) (Nat.le_of_ble_eq_true rfl) (@xr_5_0 _) <| ?_
  rw [sA (gS h), List.set_set]
  refine s_aload_n c6_32 rfl <| s_aload_n c6_33 rfl <| l_put c6_34 ha (gA (gS h)) (Nat.le_of_ble_eq_true rfl) (@xr_5_1 _) <| ?_
  rw [sA (gS h), List.set_set]
  exact s_ret c6_37 rfl ⟨rfl, rfl⟩
end
