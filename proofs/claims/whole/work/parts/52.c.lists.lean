section
variable {X : Nat × (Nat → Int32)} {d a p N k : Nat} {h0 : xHp} {L : List xC}
theorem m4 (hN : N = h0.1 + L.length) (ha : a = h0.1 + p) (h : L[p]? = some (.inr (3, [.null, .null, .null, .int 0, .int 0, .int 0]))) : EV X (d + 1) 4 [.ref a] (hX h0 L k) none (hX h0 (L.set p (.inr (3, [.ref N, .ref (N + 1), .ref (N + 2), .int 0, .int 0, .int 0])) ++ [iA 36] ++ [iA 36] ++ [bA 36]) (k + 36 + 36 + 36)) := by
  refine EV_intro (Nat.le_of_ble_eq_true rfl) (s_aload_n c4_0 rfl <| s_obj c4_1 (by decide) <| s_aload_n c4_4 rfl <| s_bipush c4_5 zcB_36 <| l_newa c4_7 (by decide) hN <| l_put c4_9 ha (gA h) (Nat.le_of_ble_eq_true rfl) xr_3_0 <| ?_)
  rw [sA h]
  refine s_aload_n c4_12 rfl <| s_bipush c4_13 zcB_36 <| l_newa (a := N + 1) c4_15 (by decide) (by rw [List.length_append, List.length_set, hN]; rfl) <| l_put c4_17 ha (gA (gA (gS h))) (Nat.le_of_ble_eq_true rfl) xr_3_1 <| ?_
  rw [sA (gA (gS h)), sA (gS h), List.set_set]
  refine s_aload_n c4_20 rfl <| s_bipush c4_21 zcB_36 <| l_newa (a := N + 2) c4_23 (by decide) (by rw [List.length_append, List.length_append, List.length_set, hN]; rfl) <| l_put c4_25 ha (gA (gA (gA (gS h)))) (Nat.le_of_ble_eq_true rfl) xr_3_2 <| ?_
  rw [sA (gA (gA (gS h))), sA (gA (gS h)), sA (gS h), List.set_set]
  exact s_ret c4_28 rfl ⟨rfl, rfl⟩
end
