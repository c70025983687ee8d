/-! The class made: its first town. -/
section
variable {X : Nat × (Nat → Int32)} {d : Nat}
theorem CA0 {ct ct' : zM} (h0 : ∀ j, j ≠ 1 → ct' 1 j = ct 1 j) (h1 : ct' 1 1 = nI 0) (k : ∀ b, b ≠ 1 → ct' b = ct b) {c1 : zM} (q : PL p0 c1 ct) : CA σ0 D0 ct' := by
  obtain ⟨q1, q2, q3, q4, q5, q6, q7, q8, q9, q10⟩ := q
  have eu : su σ0 = 0 := nI_clamp (by decide)
  have ek : sk σ0 = 0 := nI_clamp (by decide)
  have ef : sf σ0 = 0 := nI_clamp (by decide)
  have en : sn σ0 = 0 := nI_clamp (by decide)
  refine ⟨⟨?_, ?_, ?_, ?_, ?_⟩, q4.keep fun b z1 z2 => k b (by omega), ?_, ?_, ⟨fun i a h => (by cases h), fun i a h => (by cases h), fun i i' a h => (by cases h), fun i i' a h => (by cases h), fun i i' a h => (by cases h)⟩, ⟨?_, fun i hi => ?_⟩, h1, fun j hj => ?_⟩
  · rw [k 11 (by decide)]; exact q1.1
  · rw [k 11 (by decide)]; exact q1.2.1
  · rw [k 11 (by decide)]; exact q1.2.2
  · rw [k 12 (by decide)]; exact q2
  · rw [k 13 (by decide)]; exact q3
  · rw [eu]; exact (q5 _ _).keep (D := D0) (fun i a h => (by cases h)) (k 18 (by decide)) (fun b hb => k b (by omega))
  · rw [ek]; exact (q6 _ _).keep (D := D0) (fun i a h => (by cases h)) (k 20 (by decide)) (fun b hb => k b (by omega))
  · rw [k 0 (by decide)]; exact q7
  · rw [ef] at hi; omega
  · rw [en] at hj; omega
theorem r0_b {ct1 : zM} (hT : TX 91 tt ct1) : RUN X (EV X (d + 5)) 0 (zQ fun v D' ct' => v = none ∧ D' = D0 ∧ CA σ0 D0 ct') 164 [.ref 0, .int (nI 91)] [] (mk D0 ct1) := by
  obtain ⟨v, _, ct2, he, rfl, q⟩ := e20 (X := X) (D := D0) (d := d) hT
  rcases q with ⟨q1, -, -⟩ | ⟨p, q1, rfl, q2⟩
  · rw [LY0] at q1; cases q1
  rw [LY0] at q1
  cases q1
  refine s_aload_n c0_164 rfl <| s_callv (args := []) (r := []) c0_165 rfl rfl (Nat.le_of_ble_eq_true rfl) (ci := 0) (z := 0) rfl ⟨rfl, by decide⟩ he <| s_pop c0_168 rfl <| ?_
  refine s_aload_n c0_169 rfl <| s_getf (ct := ct2) (v := .ref 1) c0_170 (z := 0) rfl (by decide) rfl <| s_const c0_173 zcI_0 <| s_putf (ct := ct2) c0_174 (z := 0) rfl (by decide) zint_1_1 (@xfit_1_1 _) <| s_ret c0_177 rfl ⟨D0, _, rfl, rfl, rfl, CA0 (fun j hj => by rw [u2_r, pk_un hj]) (by rw [u2_r, pk_us]) (fun b hb => u2_n hb) q2⟩
theorem mk0 : ∃ ct', EV X (d + 6) 0 [.ref 0] (hX hZ [o0] 11) none (mk D0 ct') ∧ CA σ0 D0 ct' := by
  have hr : RUN X (EV X (d + 5)) 0 (zQ fun v D' ct' => v = none ∧ D' = D0 ∧ CA σ0 D0 ct') 0 (xini 0 [.ref 0]) [] (hX hZ [o0] 11) := by
    refine r0_a (d := d + 3) (s_const c0_133 zcI_0 <| s_istore_n c0_134 (Nat.le_of_ble_eq_true rfl) True.intro <| ?_)
    refine z_loop0 91 (fun i ls ct1 => ls = [.ref 0, .int (nI i)] ∧ ct1 1 1 = nI i ∧ ∀ j, j < i → ct1 2 j = xby j) ⟨rfl, rfl, fun j hj => absurd hj (Nat.not_lt_zero _)⟩ ?_ ?_
    · rintro i _ ct1 hi ⟨rfl, g1, g2⟩ ih
      obtain ⟨x1, x2, x3, -, -⟩ := xby_ok i hi
      refine s_iload_n c0_135 rfl <| s_ldcs c0_136 <| s_callt (args := []) (r := [.int (nI i)]) c0_138 rfl rfl (Nat.le_of_ble_eq_true rfl) rfl (e8 (d := d + 3)) <| s_icge c0_141 (fun z => ?_) (fun _ => ?_)
      · rw [zle (by omega) (by omega)] at z; omega
      refine s_aload_n c0_144 rfl <| s_getf (ct := ct1) (v := .ref 1) c0_145 (z := 0) rfl (by decide) rfl <| s_ldcs c0_148 <| s_iload_n c0_150 rfl <| s_callt (args := [.int (nI i)]) (r := [.ref 1]) c0_151 rfl rfl (Nat.le_of_ble_eq_true rfl) rfl (e10 (d := d + 1) hi) <| ?_
      have e19' : EV X (d + 5) 19 [.ref 1, .int (xby i)] (mk D0 ct1) (some (.int (nI 1))) (mk D0 (u2 (u2 ct1 2 i (xby i)) 1 1 (nI (i + 1)))) := by
        have := e19 (X := X) (D := D0) (ct := ct1) (d := d + 4) (q := (xby i).toNatClampNeg) (n := i) x3 (by omega) g1
        rw [← x1] at this
        exact this
      refine s_callv (args := [.int (xby i)]) (r := []) c0_154 rfl rfl (Nat.le_of_ble_eq_true rfl) (ci := 1) (z := 0) rfl ⟨rfl, by decide⟩ e19' <| s_pop c0_157 rfl <| s_iinc c0_158 rfl True.intro zcI_1 <| s_goto c0_161 <| ih _ _ ⟨?_, by rw [u2_r, pk_us], fun j hj => ?_⟩
      · show [Value.ref 0, .int (nI i + nI 1)] = _
        rw [nI_add]
      · rw [u2_n (by decide), u2_r]
        by_cases e : j = i
        · subst e; rw [pk_us]
        · rw [pk_un e]; exact g2 j (by omega)
    · rintro _ ct1 ⟨rfl, g1, g2⟩
      refine s_iload_n c0_135 rfl <| s_ldcs c0_136 <| s_callt (args := []) (r := [.int (nI 91)]) c0_138 rfl rfl (Nat.le_of_ble_eq_true rfl) rfl (e8 (d := d + 3)) <| s_icge c0_141 (fun _ => ?_) (fun z => absurd (by decide) z)
      exact r0_b ⟨g1, by decide, fun j hj => by
        obtain ⟨x1, x2, x3, -, -⟩ := xby_ok j hj
        exact ⟨(g2 j hj).trans x1, x3⟩⟩
  obtain ⟨v, h', he, D', ct', rfl, rfl, rfl, hc⟩ := EVP_of (Nat.le_of_ble_eq_true rfl) hr
  exact ⟨ct', he, hc⟩
end
