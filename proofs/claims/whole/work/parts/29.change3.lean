/-! Undo, keep, back, what was fined, the text's letters: the class's calls. -/
theorem zDm_of {D : zD} (h : 1 ≤ D.1) : ∃ E, D = zDm E := ⟨(D.1 - 1, D.2), by unfold zDm; dsimp only; rw [Nat.sub_add_cancel h]⟩
section
variable {X : Nat × (Nat → Int32)} {D : zD} {E : zD} {ct σ : zM} {d a : Nat}
theorem k66 (h : WF σ) (ha : CA σ D ct) : CE X (d + 3) 66 [.ref 0] D ct (fun v D' ct' => v = some (.int (g66 σ).1) ∧ PC (g66 σ).2 D ct D' ct') := by
  refine CE_of (Nat.le_of_ble_eq_true rfl) ?_
  have p0 := PC_lk ha (ct' := ct) fun _ _ => rfl
  obtain ⟨a1, a2, a3, a4, a5, a6, a7⟩ := ha
  obtain ⟨v, D', ct', he, rfl, hor⟩ := e67 (X := X) (d := d) (q := 18) (q2 := 20) (Or.inl ⟨rfl, rfl⟩) a5 a3 h.up (fun hu j hj => ((h.past 0 hu).1 j hj).2)
  unfold g66
  rcases hor with ⟨q1, rfl, rfl⟩ | ⟨q1, rfl, q3, q4, q5⟩
  · rw [if_pos q1]
    exact b66_0 he (b66_11 (fun _ => b66_14 (zQ_of ⟨rfl, p0⟩)) (fun z => absurd rfl z))
  · rw [if_neg (by omega)]
    refine b66_0 he (b66_11 (fun z => absurd z (by decide)) (fun _ => b66_17 (zQ_of ⟨?_, ⟨?_, q3, ?_, ?_, a5, ?_, ?_⟩, fun b hb => q5 b (by unfold mRow at hb; omega) (by unfold mRow at hb; omega), Nat.le_refl _, Nat.le_succ _⟩)))
    · rw [q4.1]
    · unfold CP
      rw [q5 11 (by omega) (by omega), q5 12 (by omega) (by omega), q5 13 (by omega) (by omega)]
      exact a1
    · rw [su_pop h]
      refine CR.congr q4 fun i hi => ?_
      have := h.up
      show σ (10 + (i + 1)) = sPop σ (10 + i)
      unfold sPop
      rw [if_neg (by omega), if_neg (by omega), if_pos (by omega)]
      rfl
    · refine (a4.keep (D := D) (fun i a ha => (a5.2.1 i a ha).1) (q5 20 (by omega) (by omega)) (fun b hb => q5 b (by omega) (by omega))).congr fun i _ => ?_
      show σ (20 + i) = sPop σ (20 + i)
      unfold sPop
      rw [if_neg (by omega), if_neg (by omega), if_neg (by omega)]
    · unfold CF
      rw [q5 0 (by omega) (by omega), q5 31 (by omega) (by omega), q5 32 (by omega) (by omega)]
      exact a6
    · unfold CX
      rw [q5 1 (by omega) (by omega), q5 2 (by omega) (by omega)]
      exact a7
theorem k98 (h : WF σ) (ha : CA σ (zDm E) ct) : CE X (d + 3) 98 [.ref 0] (zDm E) ct (fun v D' ct' => v = some (.int (g98 σ).1) ∧ PC (g98 σ).2 (zDm E) ct D' ct') := by
  refine CE_of (Nat.le_of_ble_eq_true rfl) ?_
  have p0 := PC_lk ha (ct' := ct) fun _ _ => rfl
  have hb := CA.bits h ha
  have hk := h.kp
  obtain ⟨a1, a2, a3, a4, a5, a6, a7⟩ := ha
  unfold g98
  refine b98_0 (fun z => ?_) (fun z => ?_)
  · rw [a4.1, zlt (by omega) (by omega)] at z
    rw [if_pos z]
    obtain ⟨_, D', ct1, he, rfl, ⟨E', rfl, hE⟩, q3, q4, q5, q6⟩ := e57 (X := X) (d := d) (q := 20) (q2 := 18) (Or.inr ⟨rfl, rfl⟩) a5 a4 a3 (by omega) a2 hb
    refine b98_14 he (b98_25 (zQ_of ⟨?_, ⟨?_, a2.keep fun b z1 z2 => q6 b (by omega) (by omega), ?_, ?_, q3, ?_, ?_⟩, fun b hb => q6 b (by unfold mRow at hb; omega) (by unfold mRow at hb; omega), by unfold zDm; dsimp only; omega, by unfold zDm; dsimp only; omega⟩))
    · rw [q4.1, if_pos (by omega)]
    · unfold CP
      rw [q6 11 (by omega) (by omega), q6 12 (by omega) (by omega), q6 13 (by omega) (by omega)]
      exact a1
    · refine CR.congr q5 fun i hi => ?_
      have := h.up
      have hi2 : i < su σ := hi
      exact (sKeep_p (by omega)).symm
    · rw [sk_keep h]
      rw [if_pos (by omega)] at q4
      exact CR.congr q4 fun i hi => (sKeep_k (by omega)).symm
    · unfold CF
      rw [q6 0 (by omega) (by omega), q6 31 (by omega) (by omega), q6 32 (by omega) (by omega)]
      exact a6
    · unfold CX
      rw [q6 1 (by omega) (by omega), q6 2 (by omega) (by omega)]
      exact a7
  · rw [a4.1, zlt (by omega) (by omega)] at z
    rw [if_neg z]
    exact b98_11 (zQ_of ⟨rfl, p0⟩)
theorem CR_0 {ct : zM} {q : Nat} {f : Nat → Option Nat} {h : Nat → Nat → Int32} : CR (u2 (u2 ct q 1 (nI 0)) q 2 (nI 0)) q f 0 h := by
  refine ⟨by rw [u2_a, if_pos ⟨rfl, rfl⟩], 0, by decide, ?_, fun i hi => by omega⟩
  rw [u2_a, if_neg (by omega), u2_a, if_pos ⟨rfl, rfl⟩]
theorem e35 {q : Nat} (hq : zsh D q = (4, 0)) : EV X (d + 1) 35 [.ref q] (mk D ct) none (mk D (u2 (u2 ct q 1 (nI 0)) q 2 (nI 0))) := EV_intro (Nat.le_of_ble_eq_true rfl) (b35_0 hq ⟨rfl, rfl⟩)
theorem k99 (h : WF σ) (ha : CA σ D ct) : CE X (d + 3) 99 [.ref 0] D ct (fun v D' ct' => v = some (.int (g99 σ).1) ∧ PC (g99 σ).2 D ct D' ct') := by
  refine CE_of (Nat.le_of_ble_eq_true rfl) ?_
  have p0 := PC_lk ha (ct' := ct) fun _ _ => rfl
  have hk := h.kp
  obtain ⟨a1, a2, a3, a4, a5, a6, a7⟩ := ha
  obtain ⟨v, D', ct', he, rfl, hor⟩ := e67 (X := X) (d := d) (q := 20) (q2 := 18) (Or.inr ⟨rfl, rfl⟩) a5 a4 (by omega) (fun hu j hj => ((h.kept 0 hu).1 j hj).2)
  unfold g99
  rcases hor with ⟨q1, rfl, rfl⟩ | ⟨q1, rfl, q3, q4, q5⟩
  · rw [if_pos q1]
    exact b99_0 he (b99_11 (fun _ => b99_14 (zQ_of ⟨rfl, p0⟩)) (fun z => absurd rfl z))
  · rw [if_neg (by omega)]
    have k5 : ∀ b, ¬ (14 ≤ b ∧ b ≤ 17) → b ≠ 20 → b ≠ 18 → (u2 (u2 ct' 18 1 (nI 0)) 18 2 (nI 0)) b = ct b := fun b z1 z2 z3 => by rw [u2_n z3, u2_n z3]; exact q5 b z1 z2
    have k6 : ∀ b, b ≠ 18 → (u2 (u2 ct' 18 1 (nI 0)) 18 2 (nI 0)) b = ct' b := fun b z3 => by rw [u2_n z3, u2_n z3]
    refine b99_0 he (b99_11 (fun z => absurd z (by decide)) (fun _ => b99_17 (e35 rfl) (b99_24 (zQ_of ⟨?_, ⟨?_, q3.keep fun b z1 z2 => k6 b (by omega), ?_, ?_, a5, ?_, ?_⟩, fun b hb => k5 b (by unfold mRow at hb; omega) (by unfold mRow at hb; omega) (by unfold mRow at hb; omega), Nat.le_refl _, Nat.le_succ _⟩))))
    · rw [k6 20 (by omega), q4.1]
    · unfold CP
      rw [k5 11 (by omega) (by omega) (by omega), k5 12 (by omega) (by omega) (by omega), k5 13 (by omega) (by omega) (by omega)]
      exact a1
    · have eu : su (sBack σ) = 0 := nI_clamp (by decide)
      show CR _ 18 D.2.1 (su (sBack σ)) _
      rw [eu]
      exact CR_0
    · show CR _ 20 D.2.2 (sk (sBack σ)) _
      rw [sk_back h]
      refine (q4.keep (D := D) (fun i a ha => (a5.2.1 i a ha).1) (k6 20 (by omega)) (fun b hb => k6 b (by omega))).congr fun i hi => ?_
      rcases (show i = 0 by omega) with rfl
      rfl
    · unfold CF
      rw [k5 0 (by omega) (by omega) (by omega), k5 31 (by omega) (by omega) (by omega), k5 32 (by omega) (by omega) (by omega)]
      exact a6
    · unfold CX
      rw [k5 1 (by omega) (by omega) (by omega), k5 2 (by omega) (by omega) (by omega)]
      exact a7
theorem k83 {w f : Int32} (h : WF σ) (ha : CA σ D ct) : CE X (d + 1) 83 [.ref 0, .int w, .int f] D ct (fun v D' ct' => v = some (.int (g83 σ w f).1) ∧ PC (g83 σ w f).2 D ct D' ct') := by
  refine CE_of (Nat.le_of_ble_eq_true rfl) ?_
  have p0 := PC_lk ha (ct' := ct) fun _ _ => rfl
  have hf := h.fp
  obtain ⟨a1, a2, a3, a4, a5, a6, a7⟩ := ha
  have e0 : ct 0 10 = nI (sf σ) := a6.1.trans h.2.2.2.2.2.1.1
  unfold g83
  refine b83_0 (fun h1 => b83_20 (zQ_of ?_)) (fun h1 => b83_4 (fun h2 => b83_20 (zQ_of ?_)) (fun h2 => b83_9 (fun h3 => b83_20 (zQ_of ?_)) (fun h3 => b83_13 (fun h4 => ?_) (fun h4 => b83_20 (zQ_of ?_)))))
  · rw [if_neg (fun z => Int32.not_le.mpr h1 z.1.1)]; exact ⟨rfl, p0⟩
  · rw [if_neg (fun z => Int32.not_lt.mpr h2 z.1.2)]; exact ⟨rfl, p0⟩
  · rw [if_neg (fun z => Int32.not_le.mpr h3 z.2.1)]; exact ⟨rfl, p0⟩
  · rw [if_pos ⟨⟨Int32.not_lt.mp h1, Int32.not_le.mp h2⟩, Int32.not_lt.mp h3, h4⟩]
    refine b83_22 (fun z => absurd z (by rw [e0]; exact nI_nlt (by omega) (by omega))) (fun _ => b83_29 (fun z => ?_) (fun z => ?_))
    · rw [e0, zlt (by omega) (by omega)] at z
      rw [if_pos z]
      have zx : zix (ct 0 10) (sf σ) 6 := by rw [e0]; exact zix_nI z (by decide)
      have k : ∀ b, b ≠ 0 → b ≠ 31 → b ≠ 32 → (u2 (u2 (u2 ct 31 (sf σ) w) 32 (sf σ) f) 0 10 (ct 0 10 + nI 1)) b = ct b := fun b z1 z2 z3 => by rw [u2_n z1, u2_n z3, u2_n z2]
      refine b83_41 zx zx (zQ_of ⟨by rw [e0, nI_add], ⟨?_, a2.keep fun b z1 z2 => k b (by omega) (by omega) (by omega), ?_, ?_, a5, ⟨?_, fun i hi => ⟨?_, ?_⟩⟩, ?_⟩, fun b hb => k b (by unfold mRow at hb; omega) (by unfold mRow at hb; omega) (by unfold mRow at hb; omega), Nat.le_refl _, Nat.le_succ _⟩)
      · unfold CP
        rw [k 11 (by omega) (by omega) (by omega), k 12 (by omega) (by omega) (by omega), k 13 (by omega) (by omega) (by omega)]
        exact a1
      · exact (a3.keep (D := D) (fun i a ha => (a5.1 i a ha).1) (k 18 (by omega) (by omega) (by omega)) (fun b hb => k b (by omega) (by omega) (by omega))).congr fun i _ => (sFine_n (by omega) (by omega)).symm
      · exact (a4.keep (D := D) (fun i a ha => (a5.2.1 i a ha).1) (k 20 (by omega) (by omega) (by omega)) (fun b hb => k b (by omega) (by omega) (by omega))).congr fun i _ => (sFine_n (by omega) (by omega)).symm
      · rw [u2_a, if_pos ⟨rfl, rfl⟩, e0, nI_add]; rfl
      · have e : sf (sFine σ w f) = sf σ + 1 := nI_clamp (by omega)
        have hi2 : i < sf σ + 1 := by rw [← e]; exact hi
        show _ = upd (upd (σ 5) (2 * sf σ) w) (2 * sf σ + 1) f (2 * i)
        rw [u2_n (by omega), u2_n (by omega), u2_a, pk_un (by omega)]
        by_cases q : i = sf σ
        · rw [if_pos ⟨rfl, q⟩, q, pk_us]
        · rw [if_neg (fun z => q z.2), pk_un (by omega)]
          exact (a6.2 i (by omega)).1
      · have e : sf (sFine σ w f) = sf σ + 1 := nI_clamp (by omega)
        have hi2 : i < sf σ + 1 := by rw [← e]; exact hi
        show _ = upd (upd (σ 5) (2 * sf σ) w) (2 * sf σ + 1) f (2 * i + 1)
        rw [u2_n (by omega), u2_a]
        by_cases q : i = sf σ
        · rw [if_pos ⟨rfl, q⟩, q, pk_us]
        · rw [if_neg (fun z => q z.2), u2_n (by omega), pk_un (by omega), pk_un (by omega)]
          exact (a6.2 i (by omega)).2
      · unfold CX
        rw [k 1 (by omega) (by omega) (by omega), k 2 (by omega) (by omega) (by omega)]
        exact a7
    · rw [e0, zlt (by omega) (by omega)] at z
      rw [if_neg z]
      exact b83_38 (zQ_of ⟨rfl, p0⟩)
  · rw [if_neg (fun z => h4 z.2.2)]; exact ⟨rfl, p0⟩
theorem k84 (h : WF σ) (ha : CA σ D ct) : CE X (d + 1) 84 [.ref 0] D ct (fun v D' ct' => v = some (.int (g84 σ).1) ∧ PC (g84 σ).2 D ct D' ct') := by
  refine CE_of (Nat.le_of_ble_eq_true rfl) ?_
  obtain ⟨a1, a2, a3, a4, a5, a6, a7⟩ := ha
  have k : ∀ b, b ≠ 0 → (u2 ct 0 10 (nI 0)) b = ct b := fun b z1 => u2_n z1
  refine b84_0 (zQ_of ⟨by rw [a6.1]; rfl, ⟨?_, a2.keep fun b z1 z2 => k b (by omega), ?_, ?_, a5, ⟨?_, fun i hi => ?_⟩, ?_⟩, fun b hb => k b (by unfold mRow at hb; omega), Nat.le_refl _, Nat.le_succ _⟩)
  · unfold CP
    rw [k 11 (by omega), k 12 (by omega), k 13 (by omega)]
    exact a1
  · exact (a3.keep (D := D) (fun i a ha => (a5.1 i a ha).1) (k 18 (by omega)) (fun b hb => k b (by omega))).congr fun i _ => (s0_n (by omega)).symm
  · exact (a4.keep (D := D) (fun i a ha => (a5.2.1 i a ha).1) (k 20 (by omega)) (fun b hb => k b (by omega))).congr fun i _ => (s0_n (by omega)).symm
  · rw [u2_a, if_pos ⟨rfl, rfl⟩]; rfl
  · have e : sf (s0 σ 5 (nI 0)) = 0 := nI_clamp (by decide)
    have hi2 : i < sf (s0 σ 5 (nI 0)) := hi
    rw [e] at hi2; omega
  · unfold CX
    rw [k 1 (by omega), k 2 (by omega)]
    exact a7
theorem k38 (h : WF σ) (ha : CA σ D ct) : CE X (d + 1) 38 [.ref 0] D ct (fun v D' ct' => v = some (.int (g38 σ).1) ∧ PC (g38 σ).2 D ct D' ct') := by
  refine CE_of (Nat.le_of_ble_eq_true rfl) ?_
  obtain ⟨a1, a2, a3, a4, a5, a6, a7⟩ := ha
  have k : ∀ b, b ≠ 1 → (u2 ct 1 1 (nI 0)) b = ct b := fun b z1 => u2_n z1
  refine b38_0 (zQ_of ⟨by rw [a7.1]; rfl, ⟨?_, a2.keep fun b z1 z2 => k b (by omega), ?_, ?_, a5, ?_, ⟨?_, fun i hi => ?_⟩⟩, fun b hb => k b (by unfold mRow at hb; omega), Nat.le_refl _, Nat.le_succ _⟩)
  · unfold CP
    rw [k 11 (by omega), k 12 (by omega), k 13 (by omega)]
    exact a1
  · exact (a3.keep (D := D) (fun i a ha => (a5.1 i a ha).1) (k 18 (by omega)) (fun b hb => k b (by omega))).congr fun i _ => (s0_n (by omega)).symm
  · exact (a4.keep (D := D) (fun i a ha => (a5.2.1 i a ha).1) (k 20 (by omega)) (fun b hb => k b (by omega))).congr fun i _ => (s0_n (by omega)).symm
  · unfold CF
    rw [k 0 (by omega), k 31 (by omega), k 32 (by omega)]
    exact a6
  · rw [u2_a, if_pos ⟨rfl, rfl⟩]; rfl
  · have e : sn (s0 σ 6 (nI 0)) = 0 := nI_clamp (by decide)
    have hi2 : i < sn (s0 σ 6 (nI 0)) := hi
    rw [e] at hi2; omega
theorem pk_ch {q : Nat} (hq : q ≤ 126) : ((nI q).toUInt32 % 65536).toInt32 = nI q ∧ vp_nar .char (nI q) = nI q := by
  have key : ∀ q, q < 127 → ((nI q).toUInt32 % 65536).toInt32 = nI q ∧ vp_nar .char (nI q) = nI q := by decide +kernel
  exact key q (by omega)
/-- a letter more in the text -/
theorem e19 {q n : Nat} (hq : q ≤ 126) (hn : n < 200) (h1 : ct 1 1 = nI n) : EV X (d + 1) 19 [.ref 1, .int (nI q)] (mk D ct) (some (.int (nI 1))) (mk D (u2 (u2 ct 2 n (nI q)) 1 1 (nI (n + 1)))) := by
  refine EV_intro (Nat.le_of_ble_eq_true rfl) ?_
  refine b19_0 (fun z => ?_) (fun _ => b19_7 (fun _ => ?_) (fun z => ?_))
  · rw [h1, zlt (by omega) (by omega)] at z; omega
  · refine b19_19 (j28 := n) (by rw [h1]; exact zix_nI hn (by decide)) (pk_ch hq).2 ⟨rfl, ?_⟩
    rw [h1, nI_add]
  · rw [h1, zlt (by omega) (by omega)] at z; omega
theorem k37 {x : Int32} (h : WF σ) (ha : CA σ D ct) : CE X (d + 2) 37 [.ref 0, .int x] D ct (fun v D' ct' => v = some (.int (g37 σ x).1) ∧ PC (g37 σ x).2 D ct D' ct') := by
  refine CE_of (Nat.le_of_ble_eq_true rfl) ?_
  have p0 := PC_lk ha (ct' := ct) fun _ _ => rfl
  have hn := h.np
  obtain ⟨a1, a2, a3, a4, a5, a6, a7⟩ := ha
  have e0 : ct 1 1 = nI (sn σ) := a7.1.trans h.2.2.2.2.2.2.1.1
  unfold g37
  refine b37_0 (fun h1 => b37_12 (zQ_of ?_)) (fun h1 => b37_6 (fun h2 => ?_) (fun h2 => b37_12 (zQ_of ?_)))
  · rw [if_neg (fun z => Int32.not_le.mpr h1 z.1)]; exact ⟨rfl, p0⟩
  · rw [if_pos ⟨Int32.not_lt.mp h1, h2⟩]
    obtain ⟨q, q1, q2, rfl⟩ := pk_le32 (Int32.not_lt.mp h1) h2
    by_cases z : sn σ < 200
    · rw [if_pos z]
      have k : ∀ b, b ≠ 1 → b ≠ 2 → (u2 (u2 ct 2 (sn σ) (nI q)) 1 1 (nI (sn σ + 1))) b = ct b := fun b z1 z2 => by rw [u2_n z1, u2_n z2]
      refine b37_14 (by rw [(pk_ch q2).1]; exact e19 q2 z e0) (b37_23 (fun z => absurd z (by decide)) (fun _ => b37_29 (zQ_of ⟨?_, ⟨?_, a2.keep fun b z1 z2 => k b (by omega) (by omega), ?_, ?_, a5, ?_, ⟨?_, fun i hi => ?_⟩⟩, fun b hb => k b (by unfold mRow at hb; omega) (by unfold mRow at hb; omega), Nat.le_refl _, Nat.le_succ _⟩)))
      · rw [u2_a, if_pos ⟨rfl, rfl⟩]
      · unfold CP
        rw [k 11 (by omega) (by omega), k 12 (by omega) (by omega), k 13 (by omega) (by omega)]
        exact a1
      · exact (a3.keep (D := D) (fun i a ha => (a5.1 i a ha).1) (k 18 (by omega) (by omega)) (fun b hb => k b (by omega) (by omega))).congr fun i _ => (sAdd_n (by omega) (by omega)).symm
      · exact (a4.keep (D := D) (fun i a ha => (a5.2.1 i a ha).1) (k 20 (by omega) (by omega)) (fun b hb => k b (by omega) (by omega))).congr fun i _ => (sAdd_n (by omega) (by omega)).symm
      · unfold CF
        rw [k 0 (by omega) (by omega), k 31 (by omega) (by omega), k 32 (by omega) (by omega)]
        exact a6
      · rw [u2_a, if_pos ⟨rfl, rfl⟩]; rfl
      · have e : sn (sAdd σ (nI q)) = sn σ + 1 := nI_clamp (by omega)
        have hi2 : i < sn (sAdd σ (nI q)) := hi
        rw [e] at hi2
        show _ = upd (σ 4) (sn σ) (nI q) i
        rw [u2_n (by omega), u2_a]
        by_cases q3 : i = sn σ
        · rw [if_pos ⟨rfl, q3⟩, q3, pk_us]
        · rw [if_neg (fun z => q3 z.2), pk_un q3]
          exact a7.2 i (by omega)
    · rw [if_neg z]
      have e19n : EV X (d + 1) 19 [.ref 1, .int (nI q)] (mk D ct) (some (.int (nI 0))) (mk D ct) := by
        refine EV_intro (Nat.le_of_ble_eq_true rfl) ?_
        refine b19_0 (fun z => b19_17 ⟨rfl, rfl⟩) (fun _ => b19_7 (fun z2 => ?_) (fun _ => b19_17 ⟨rfl, rfl⟩))
        rw [e0, zlt (by omega) (by omega)] at z2; omega
      exact b37_14 (by rw [(pk_ch q2).1]; exact e19n) (b37_23 (fun _ => b37_26 (zQ_of ⟨rfl, p0⟩)) (fun z => absurd rfl z))
  · rw [if_neg (fun z => h2 z.2)]; exact ⟨rfl, p0⟩
end
