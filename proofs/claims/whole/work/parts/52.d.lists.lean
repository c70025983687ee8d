section
variable {X : Nat × (Nat → Int32)} {d a p N k : Nat} {h0 : xHp} {L : List xC}
theorem m5 (hN : N = h0.1 + L.length) (ha : a = h0.1 + p) (h : L[p]? = some (.inr (4, [.null, .int 0, .int 0]))) : EV X (d + 1) 5 [.ref a] (hX h0 L k) none (hX h0 (L.set p (.inr (4, [.ref N, .int 0, .int 0])) ++ [.inl (3, 8, .inr fun _ => none)]) (k + 8)) := by
  refine EV_intro (Nat.le_of_ble_eq_true rfl) (s_aload_n c5_0 rfl <| s_obj c5_1 (Nat.le_of_ble_eq_true rfl) <| s_aload_n c5_4 rfl <| s_bipush c5_5 zcB_8 <| l_newr c5_7 (by decide) hN <| l_put c5_10 ha (gA h) (Nat.le_of_ble_eq_true rfl) (@xr_4_0 _) <| ?_)
  rw [sA h]
  refine s_aload_n c5_13 rfl <| s_const c5_14 zcI_0 <| l_put c5_15 ha (gA (gS h)) (Nat.le_of_ble_eq_true rfl) xfit_4_1 <| ?_
  rw [sA (gS h), List.set_set]
  refine s_aload_n c5_18 rfl <| s_const c5_19 zcI_0 <| l_put c5_20 ha (gA (gS h)) (Nat.le_of_ble_eq_true rfl) xfit_4_2 <| ?_
  rw [sA (gS h), List.set_set]
  exact s_ret c5_23 rfl ⟨rfl, rfl⟩
end
