/-! The reference made. -/
def o7 : xC := .inr (7, [.null, .null, .null, .null, .null, .int 0, .null, .int 0, .null, .int 0, .null, .int 0, .int 0, .int 0, .null, .null, .null, .int 0, .int 0])
def lM : List xC := [.inr (7, [.ref 34, .ref 35, .ref 36, .ref 37, .ref 38, .int 0, .ref 39, .int 0, .ref 40, .int 0, .ref 41, .int 0, .int 0, .int 0, .ref 42, .ref 43, .ref 44, .int 0, .int 0]), iA 81, iA 81, iA 111, iA 111, iA 888, iA 222, iA 200, iA 12, iA 4, iA 3, iA 3]
def cM (ct : zM) : zM := fun b => if b < 33 then ct b else fun _ => 0
theorem zcS_888 : (Int16.ofInt 888).toInt32 = nI 888 := by decide
theorem zcS_222 : (Int16.ofInt 222).toInt32 = nI 222 := by decide
theorem zsh_hi {D : zD} {a : Nat} (h : 45 ≤ a) (hD : D.1 ≤ 1) : zsh D a = (99, 0) := by
  unfold zsh
  rw [if_neg (by omega)]
  by_cases h0 : D.1 = 0
  · rw [if_pos h0]
  · rw [if_neg h0, if_neg (by omega), if_neg (by omega)]
theorem hX_nil {ct : zM} : mk D0 ct = hX (mk D0 ct) [] 745 := by
  refine Prod.ext rfl (Prod.ext rfl (funext fun a => ?_))
  show zc D0 a (ct a) = if a < 33 then zc D0 a (ct a) else ([] : List xC)[a - 33]?
  by_cases h : a < 33
  · rw [if_pos h]
  · have e : zsh D0 a = (99, 0) := by unfold zsh; rw [if_neg h]; rfl
    rw [if_neg h]
    unfold zc
    rw [e]
    rfl
theorem hX_1 {ct : zM} : hX (mk D0 ct) lM 2480 = mk (zDm D0) (cM ct) := by
  refine Prod.ext rfl (Prod.ext rfl (funext fun a => ?_))
  show (if a < 33 then zc D0 a (ct a) else lM[a - 33]?) = zc (zDm D0) a (cM ct a)
  by_cases h : a < 33
  · rw [if_pos h]
    unfold cM
    rw [if_pos h]
    exact zc_u ((zsh_lo h).trans (zsh_lo h).symm) fun _ => rfl
  rw [if_neg h]
  by_cases h2 : a < 45
  · rcases (show a = 33 ∨ a = 34 ∨ a = 35 ∨ a = 36 ∨ a = 37 ∨ a = 38 ∨ a = 39 ∨ a = 40 ∨ a = 41 ∨ a = 42 ∨ a = 43 ∨ a = 44 by omega) with rfl | rfl | rfl | rfl | rfl | rfl | rfl | rfl | rfl | rfl | rfl | rfl <;> rfl
  · rw [List.getElem?_eq_none (show lM.length ≤ a - 33 by show 12 ≤ a - 33; omega)]
    unfold zc
    rw [zsh_hi (by omega) (by decide)]
    rfl
/-- what the reference draws at first -/
def R35 (ct : zM) (p : Nat → Int32) : Prop := ∀ j, j < 81 → ct 35 j = p j
theorem R35.up {ct : zM} {p : Nat → Int32} {k : Nat} {v : Int32} (h : R35 ct p) : R35 (u2 ct 35 k v) (upd p k v) := by
  intro j hj
  rw [u2_r]
  by_cases e : j = k
  · subst e; rw [pk_us, pk_us]
  · rw [pk_un e, pk_un e]; exact h j hj
def pm0 : Nat → Int32 := upd (upd (upd (upd (upd (upd (upd (upd (upd (upd (upd (upd (upd (upd (upd (upd (upd (upd (upd (upd (upd (upd (upd (upd (upd (upd (upd (upd (upd pd0 0 (nI 4)) 1 (nI 5)) 12 (nI 4)) 48 (nI 4)) 17 (nI 1)) 53 (nI 1)) 18 (nI 1)) 54 (nI 1)) 21 (nI 5)) 57 (nI 5)) 20 (nI 2)) 56 (nI 2)) 22 (nI 7)) 58 (nI 7)) 25 (nI 3)) 61 (nI 3)) 27 (nI 1)) 63 (nI 1)) 48 (nI 0)) 47 (nI 4)) 61 (nI 0)) 62 (nI 3)) 8 (nI 12)) 7 (nI 2)) 2 (nI 9)) 3 (nI 3)) 4 (nI 2)) 5 (nI 4)) 6 (nI 1)
set_option maxRecDepth 20000 in
theorem pm0_p0 : ∀ j, j < 81 → pm0 j = p0 j := by decide +kernel
section
variable {X : Nat × (Nat → Int32)} {D : zD} {ct : zM} {d : Nat}
theorem e104 {x : Nat} {k : Int32} (hx : x < 36) : EV X (d + 1) 104 [.ref 33, .int (nI x), .int k] (mk (zDm D) ct) none (mk (zDm D) (u2 (u2 ct 35 (9 + x) k) 35 (45 + x) k)) :=
  EV_intro (Nat.le_of_ble_eq_true rfl) (b104_0 (j9 := 9 + x) ⟨by rw [nI_add], by omega, by decide⟩ (j19 := 45 + x) ⟨by rw [nI_add], by omega, by decide⟩ ⟨rfl, rfl⟩)
set_option maxHeartbeats 4000000 in
theorem r102_a {Q : Option Value → xHp → Prop} (kk : RUN X (EV X (d + 2)) 102 Q 92 [.ref 33] [] (mk (zDm D0) (cM ct))) : RUN X (EV X (d + 2)) 102 Q 0 [.ref 33] [] (hX (mk D0 ct) [o7] 764) := by
  refine s_aload_n c102_0 rfl <| s_obj c102_1 (Nat.le_of_ble_eq_true rfl) <| ?_
  refine s_aload_n c102_4 rfl <| s_bipush c102_5 zcB_81 <| l_newa (a := 34) c102_7 (Nat.le_of_ble_eq_true rfl) rfl <| l_put (p := 0) c102_9 rfl rfl (Nat.le_of_ble_eq_true rfl) (@xr_7_0 _) <| ?_
  refine s_aload_n c102_12 rfl <| s_bipush c102_13 zcB_81 <| l_newa (a := 35) c102_15 (Nat.le_of_ble_eq_true rfl) rfl <| l_put (p := 0) c102_17 rfl rfl (Nat.le_of_ble_eq_true rfl) (@xr_7_1 _) <| ?_
  refine s_aload_n c102_20 rfl <| s_bipush c102_21 zcB_111 <| l_newa (a := 36) c102_23 (Nat.le_of_ble_eq_true rfl) rfl <| l_put (p := 0) c102_25 rfl rfl (Nat.le_of_ble_eq_true rfl) (@xr_7_2 _) <| ?_
  refine s_aload_n c102_28 rfl <| s_bipush c102_29 zcB_111 <| l_newa (a := 37) c102_31 (Nat.le_of_ble_eq_true rfl) rfl <| l_put (p := 0) c102_33 rfl rfl (Nat.le_of_ble_eq_true rfl) (@xr_7_3 _) <| ?_
  refine s_aload_n c102_36 rfl <| s_sipush c102_37 zcS_888 <| l_newa (a := 38) c102_40 (Nat.le_of_ble_eq_true rfl) rfl <| l_put (p := 0) c102_42 rfl rfl (Nat.le_of_ble_eq_true rfl) (@xr_7_4 _) <| ?_
  refine s_aload_n c102_45 rfl <| s_sipush c102_46 zcS_222 <| l_newa (a := 39) c102_49 (Nat.le_of_ble_eq_true rfl) rfl <| l_put (p := 0) c102_51 rfl rfl (Nat.le_of_ble_eq_true rfl) (@xr_7_6 _) <| ?_
  refine s_aload_n c102_54 rfl <| s_sipush c102_55 zcS_200 <| l_newa (a := 40) c102_58 (Nat.le_of_ble_eq_true rfl) rfl <| l_put (p := 0) c102_60 rfl rfl (Nat.le_of_ble_eq_true rfl) (@xr_7_8 _) <| ?_
  refine s_aload_n c102_63 rfl <| s_bipush c102_64 zcB_12 <| l_newa (a := 41) c102_66 (Nat.le_of_ble_eq_true rfl) rfl <| l_put (p := 0) c102_68 rfl rfl (Nat.le_of_ble_eq_true rfl) (@xr_7_10 _) <| ?_
  refine s_aload_n c102_71 rfl <| s_const c102_72 zcI_4 <| l_newa (a := 42) c102_73 (Nat.le_of_ble_eq_true rfl) rfl <| l_put (p := 0) c102_75 rfl rfl (Nat.le_of_ble_eq_true rfl) (@xr_7_14 _) <| ?_
  refine s_aload_n c102_78 rfl <| s_const c102_79 zcI_3 <| l_newa (a := 43) c102_80 (Nat.le_of_ble_eq_true rfl) rfl <| l_put (p := 0) c102_82 rfl rfl (Nat.le_of_ble_eq_true rfl) (@xr_7_15 _) <| ?_
  refine s_aload_n c102_85 rfl <| s_const c102_86 zcI_3 <| l_newa (a := 44) c102_87 (Nat.le_of_ble_eq_true rfl) rfl <| l_put (p := 0) c102_89 rfl rfl (Nat.le_of_ble_eq_true rfl) (@xr_7_16 _) <| ?_
  have e : RUN X (EV X (d + 2)) 102 Q 92 [.ref 33] [] (hX (mk D0 ct) lM 2480) := by rw [hX_1]; exact kk
  exact e
theorem CA1 {ct' : zM} (h : CA σ0 D0 ct) (k : ∀ b, b < 33 → ct' b = ct b) : CA σ0 (zDm D0) ct' := by
  obtain ⟨a1, a2, a3, a4, a5, a6, a7⟩ := h
  have eu : su σ0 = 0 := nI_clamp (by decide)
  have ek : sk σ0 = 0 := nI_clamp (by decide)
  refine ⟨?_, a2.keep fun b z1 z2 => k b (by omega), ?_, ?_, ⟨fun i a h => (by cases h), fun i a h => (by cases h), fun i i' a h => (by cases h), fun i i' a h => (by cases h), fun i i' a h => (by cases h)⟩, ?_, ?_⟩
  · unfold CP; rw [k 11 (by decide), k 12 (by decide), k 13 (by decide)]; exact a1
  · obtain ⟨b1, t, ht, b2, -⟩ := a3
    exact ⟨by rw [k 18 (by decide)]; exact b1, t, ht, by rw [k 18 (by decide)]; exact b2, fun i hi => by rw [eu] at hi; exact absurd hi (Nat.not_lt_zero _)⟩
  · obtain ⟨b1, t, ht, b2, -⟩ := a4
    exact ⟨by rw [k 20 (by decide)]; exact b1, t, ht, by rw [k 20 (by decide)]; exact b2, fun i hi => by rw [ek] at hi; exact absurd hi (Nat.not_lt_zero _)⟩
  · unfold CF; rw [k 0 (by decide), k 31 (by decide), k 32 (by decide)]; exact a6
  · unfold CX; rw [k 1 (by decide), k 2 (by decide)]; exact a7
theorem mk1 (hc : CA σ0 D0 ct) : ∃ ct', EV X (d + 4) 102 [.ref 33] (hX (mk D0 ct) [o7] 764) none (mk (zDm D0) ct') ∧ CA σ0 (zDm D0) ct' ∧ MA σ0 ct' := by
  have hr : RUN X (EV X (d + 3)) 102 (zQ fun v D' ct' => v = none ∧ D' = zDm D0 ∧ CA σ0 (zDm D0) ct' ∧ MA σ0 ct') 0 (xini 102 [.ref 33]) [] (hX (mk D0 ct) [o7] 764) := by
    refine r102_a (d := d + 1) ?_
    obtain ⟨_, _, ct1, he, rfl, rfl, g1, g2⟩ := e103 (X := X) (D := D0) (d := d + 2) (ct := cM ct)
    refine b102_92 he ?_
    have r0 : R35 ct1 pd0 := g2.1
    refine b102_96 (e104 (by decide)) <| b102_116 (e104 (by decide)) <| b102_123 (e104 (by decide)) <| b102_130 (e104 (by decide)) <| b102_137 (e104 (by decide)) <| b102_144 (e104 (by decide)) <| b102_152 (e104 (by decide)) <| b102_159 (e104 (by decide)) <| ?_
    have r1 : R35 (u2 (u2 (u2 (u2 (u2 (u2 (u2 (u2 (u2 (u2 (u2 (u2 (u2 (u2 (u2 (u2 (u2 (u2 (u2 (u2 (u2 (u2 (u2 (u2 (u2 (u2 (u2 (u2 (u2 ct1 35 0 (nI 4)) 35 1 (nI 5)) 35 12 (nI 4)) 35 48 (nI 4)) 35 17 (nI 1)) 35 53 (nI 1)) 35 18 (nI 1)) 35 54 (nI 1)) 35 21 (nI 5)) 35 57 (nI 5)) 35 20 (nI 2)) 35 56 (nI 2)) 35 22 (nI 7)) 35 58 (nI 7)) 35 25 (nI 3)) 35 61 (nI 3)) 35 27 (nI 1)) 35 63 (nI 1)) 35 48 (nI 0)) 35 47 (nI 4)) 35 61 (nI 0)) 35 62 (nI 3)) 35 8 (nI 12)) 35 7 (nI 2)) 35 2 (nI 9)) 35 3 (nI 3)) 35 4 (nI 2)) 35 5 (nI 4)) 35 6 (nI 1)) pm0 := (R35.up (k := 6) (v := nI 1) (R35.up (k := 5) (v := nI 4) (R35.up (k := 4) (v := nI 2) (R35.up (k := 3) (v := nI 3) (R35.up (k := 2) (v := nI 9) (R35.up (k := 7) (v := nI 2) (R35.up (k := 8) (v := nI 12) (R35.up (k := 62) (v := nI 3) (R35.up (k := 61) (v := nI 0) (R35.up (k := 47) (v := nI 4) (R35.up (k := 48) (v := nI 0) (R35.up (k := 63) (v := nI 1) (R35.up (k := 27) (v := nI 1) (R35.up (k := 61) (v := nI 3) (R35.up (k := 25) (v := nI 3) (R35.up (k := 58) (v := nI 7) (R35.up (k := 22) (v := nI 7) (R35.up (k := 56) (v := nI 2) (R35.up (k := 20) (v := nI 2) (R35.up (k := 57) (v := nI 5) (R35.up (k := 21) (v := nI 5) (R35.up (k := 54) (v := nI 1) (R35.up (k := 18) (v := nI 1) (R35.up (k := 53) (v := nI 1) (R35.up (k := 17) (v := nI 1) (R35.up (k := 48) (v := nI 4) (R35.up (k := 12) (v := nI 4) (R35.up (k := 1) (v := nI 5) (R35.up (k := 0) (v := nI 4) r0)))))))))))))))))))))))))))))
    have only : ∀ b, b ≠ 35 → (u2 (u2 (u2 (u2 (u2 (u2 (u2 (u2 (u2 (u2 (u2 (u2 (u2 (u2 (u2 (u2 (u2 (u2 (u2 (u2 (u2 (u2 (u2 (u2 (u2 (u2 (u2 (u2 (u2 ct1 35 0 (nI 4)) 35 1 (nI 5)) 35 12 (nI 4)) 35 48 (nI 4)) 35 17 (nI 1)) 35 53 (nI 1)) 35 18 (nI 1)) 35 54 (nI 1)) 35 21 (nI 5)) 35 57 (nI 5)) 35 20 (nI 2)) 35 56 (nI 2)) 35 22 (nI 7)) 35 58 (nI 7)) 35 25 (nI 3)) 35 61 (nI 3)) 35 27 (nI 1)) 35 63 (nI 1)) 35 48 (nI 0)) 35 47 (nI 4)) 35 61 (nI 0)) 35 62 (nI 3)) 35 8 (nI 12)) 35 7 (nI 2)) 35 2 (nI 9)) 35 3 (nI 3)) 35 4 (nI 2)) 35 5 (nI 4)) 35 6 (nI 1)) b = ct1 b := fun b hb => by simp only [u2_n hb]
    obtain ⟨ct2, hct2⟩ : ∃ c, c = (u2 (u2 (u2 (u2 (u2 (u2 (u2 (u2 (u2 (u2 (u2 (u2 (u2 (u2 (u2 (u2 (u2 (u2 (u2 (u2 (u2 (u2 (u2 (u2 (u2 (u2 (u2 (u2 (u2 ct1 35 0 (nI 4)) 35 1 (nI 5)) 35 12 (nI 4)) 35 48 (nI 4)) 35 17 (nI 1)) 35 53 (nI 1)) 35 18 (nI 1)) 35 54 (nI 1)) 35 21 (nI 5)) 35 57 (nI 5)) 35 20 (nI 2)) 35 56 (nI 2)) 35 22 (nI 7)) 35 58 (nI 7)) 35 25 (nI 3)) 35 61 (nI 3)) 35 27 (nI 1)) 35 63 (nI 1)) 35 48 (nI 0)) 35 47 (nI 4)) 35 61 (nI 0)) 35 62 (nI 3)) 35 8 (nI 12)) 35 7 (nI 2)) 35 2 (nI 9)) 35 3 (nI 3)) 35 4 (nI 2)) 35 5 (nI 4)) 35 6 (nI 1)) := ⟨_, rfl⟩
    rw [← hct2] at r1 only
    have r2 : ∀ j, j < 81 → ct2 35 j = p0 j := fun j hj => (r1 j hj).trans (pm0_p0 j hj)
    obtain ⟨_, _, ct3, he3, rfl, rfl, q1, q2, q3, q4, q5⟩ := e105 (X := X) (D := D0) (d := d + 1) r2
    subst hct2
    refine b102_166 he3 (b102_256 (zQ_of ⟨rfl, rfl, CA1 hc fun b hb => ?_, ?_⟩))
    · rw [q1 b (by omega) (by omega) (by omega), only b (by omega), g1.1 b (by omega) (by omega) (by omega)]
      unfold cM
      rw [if_pos hb]
    · refine MA_lay (σ := fun _ _ => nI 0) q4 q5 q3 ⟨?_, fun j hj => absurd hj (Nat.not_lt_zero _)⟩
      rw [q2 9 (by decide) (by decide) (by decide), only 33 (by decide), g1.2 9 (by decide) (by decide)]
      rfl
  obtain ⟨v, h', he, D', ct', rfl, rfl, rfl, h1, h2⟩ := EVP_of (Nat.le_of_ble_eq_true rfl) hr
  exact ⟨ct', he, h1, h2⟩
end
