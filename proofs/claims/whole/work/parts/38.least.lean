/-! The class's search, whole. -/
def kin (k : Int32) : Prop := nI 0 ≤ k ∧ k ≤ nI 3
/-- what is told of the best set: q of it (k = 0), or its k-th cell -/
def ans (q : List Nat → Nat) (r : Option (List Nat)) (k : Int32) : Int32 := match r with
  | none => (-4)
  | some s => if k = nI 0 then nI (q s) else if nI s.length < k then (-4) else nI (s.getD (k.toNatClampNeg - 1) 0)
section
variable {X : Nat × (Nat → Int32)} {D : zD} {ct σ : zM} {d : Nat}
theorem e76n {x1 x3 : Int32} : CE X (d + 1) 76 [.ref 28, .int x1, .int (nI 3), .int x3] D ct (fun v D' ct' => v = none ∧ D = D' ∧ ct' = ct) := by
  refine CE_of (Nat.le_of_ble_eq_true rfl) ?_
  exact b76_0 (fun _ => b76_13 (zQ_of ⟨rfl, rfl, rfl⟩)) (fun _ => b76_4 (fun _ => b76_13 (zQ_of ⟨rfl, rfl, rfl⟩)) (fun _ => b76_8 (fun z => absurd z (by decide)) (fun _ => b76_13 (zQ_of ⟨rfl, rfl, rfl⟩))))
theorem e73 {cv : Bool} {ct0 : zM} (h : WF σ) (ha : CA σ D ct0) : ∀ (k : Nat) (l : List Nat), l.length + k = 3 → zokl (sr σ * sc σ) (eli σ cv) l → ∀ (ct : zM) (r : Option (List Nat)), SI σ cv ct0 ct l r → BE (sr σ * sc σ) (eli σ cv) (kwt σ cv) (pas σ cv) (fun v => dn v < dn l) r → CE X (d + 2 * k + 7) 73 [.ref 28, .int (nI (nxt l)), .int (nI l.length), .int (nI (kw (kwt σ cv) l))] D ct (SQ σ cv D ct0 l) := by
  intro k
  induction k with
  | zero =>
    intro l hlen hl ct r hS hB
    have hN := h.N
    have hkw := kw_le (w := kwt σ cv) (fun _ => kwt_le) l
    refine CE_of (Nat.le_of_ble_eq_true rfl) ?_
    refine b73_0 (e74 (fun _ => kwt_le) hS.2.2.2.2.2 (fun s hs => ?_) (by omega) (by omega)) ?_
    · subst hs; exact zokl_len hB.1
    by_cases hb : btr (kwt σ cv) r (kw (kwt σ cv) l) l.length = true
    · rw [if_pos hb]
      refine b73_6 (fun z => absurd z (by decide)) (fun _ => ?_)
      refine b73_10 (e54 hS.2.2.2.1 (fun _ _ => sp_le) hN) ?_
      have hlim : ct 11 2 = σ 0 2 := (ha.1.si hS.1).2.2.1
      refine b73_17 (fun hp => ?_) (fun hp => ?_)
      · have e3 : l.length = 3 := hlen
        obtain ⟨_, _, ct2, he, rfl, rfl, rfl⟩ := e76n (X := X) (D := D) (ct := ct) (d := d + 2 * 0 + 5) (x1 := nI (nxt l)) (x3 := nI (kw (kwt σ cv) l))
        rw [hlim] at hp
        refine b73_34 (by rw [e3]; exact he) (b73_41 (zQ_of ⟨rfl, rfl, r, hS, hB.grow (fun v hv q => by omega) (fun v hv q => ?_)⟩))
        by_cases q2 : dn v < dn l
        · exact Or.inl q2
        · have q3 := dn_ext (w := kwt σ cv) hN hl hv (by omega) q
          have q4 := zokl_len hv
          rw [q3.2.2 (by omega)]
          exact Or.inr fun z => z hp
      · obtain ⟨_, _, ct2, he, rfl, rfl, k1, ⟨k2, k3, k4, k5⟩, k6⟩ := e75 (X := X) (D := D) (ct := ct) (d := d + 2 * 0 + 5) (n := l.length) (K := nI (kw (kwt σ cv) l)) (by omega)
        rw [hlim] at hp
        refine b73_27 he (b73_33 (zQ_of ⟨rfl, rfl, some l, ⟨fun b hb => by rw [k1 b (by omega) (by omega), hS.1 b hb], k2.trans hS.2.1, hS.2.2.1.keep (fun b q1 q2 => k1 b (by omega) (by omega)), hS.2.2.2.1.keep (k1 26 (by decide) (by decide)) (k1 27 (by decide) (by decide)), fun i hi => by rw [k1 29 (by decide) (by decide)]; exact hS.2.2.2.2.1 i hi, k3, k4, k5, fun i hi => by rw [k6 i hi]; exact hS.2.2.2.2.1 i hi⟩, BE.take hN hl hp hB (btr_y hb)⟩))
    · rw [if_neg hb]
      refine b73_6 (fun _ => b73_9 (zQ_of ⟨rfl, rfl, r, hS, ?_⟩)) (fun z => absurd rfl z)
      rcases r with _ | s
      · exact absurd rfl hb
      · exact BE.skip hN hl hB (btr_n hb)
  | succ k ih =>
    intro l hlen hl ct r hS hB
    have hN := h.N
    have hkw := kw_le (w := kwt σ cv) (fun _ => kwt_le) l
    refine CE_of (Nat.le_of_ble_eq_true rfl) ?_
    refine b73_0 (e74 (fun _ => kwt_le) hS.2.2.2.2.2 (fun s hs => ?_) (by omega) (by omega)) ?_
    · subst hs; exact zokl_len hB.1
    by_cases hb : btr (kwt σ cv) r (kw (kwt σ cv) l) l.length = true
    · rw [if_pos hb]
      refine b73_6 (fun z => absurd z (by decide)) (fun _ => ?_)
      refine b73_10 (e54 hS.2.2.2.1 (fun _ _ => sp_le) hN) ?_
      have hlim : ct 11 2 = σ 0 2 := (ha.1.si hS.1).2.2.1
      refine b73_17 (fun hp => ?_) (fun hp => ?_)
      · rw [hlim] at hp
        obtain ⟨_, _, ct2, he, rfl, rfl, q⟩ := r76 (X := X) (D := D) (d := d + 2 * (k + 1)) h ha hl (by omega) (fun x ct r q1 q2 q3 q4 q5 => by
          have a := dn_app (l := l) (x := x) (by omega)
          have i := ih (l ++ [x]) (by rw [List.length_append]; show l.length + 1 + k = 3; omega) (zokl_app hl (by omega) q1 q2 q3) ct r q4 q5
          rw [a.2.2, List.length_append] at i
          rw [show d + 2 * (k + 1) + 5 = d + 2 * k + 7 by omega]
          exact i) hS (hB.grow (fun v hv q => by omega) (fun v hv q => by
          by_cases q2 : dn v < dn l
          · exact Or.inl q2
          · rw [dn_fst hN hl (by omega) hv (by omega) q]
            exact Or.inr fun z => z hp))
        exact b73_34 he (b73_41 (zQ_of ⟨rfl, rfl, q⟩))
      · obtain ⟨_, _, ct2, he, rfl, rfl, k1, ⟨k2, k3, k4, k5⟩, k6⟩ := e75 (X := X) (D := D) (ct := ct) (d := d + 2 * (k + 1) + 5) (n := l.length) (K := nI (kw (kwt σ cv) l)) (by omega)
        rw [hlim] at hp
        refine b73_27 he (b73_33 (zQ_of ⟨rfl, rfl, some l, ⟨fun b hb => by rw [k1 b (by omega) (by omega), hS.1 b hb], k2.trans hS.2.1, hS.2.2.1.keep (fun b q1 q2 => k1 b (by omega) (by omega)), hS.2.2.2.1.keep (k1 26 (by decide) (by decide)) (k1 27 (by decide) (by decide)), fun i hi => by rw [k1 29 (by decide) (by decide)]; exact hS.2.2.2.2.1 i hi, k3, k4, k5, fun i hi => by rw [k6 i hi]; exact hS.2.2.2.2.1 i hi⟩, BE.take hN hl hp hB (btr_y hb)⟩))
    · rw [if_neg hb]
      refine b73_6 (fun _ => b73_9 (zQ_of ⟨rfl, rfl, r, hS, ?_⟩)) (fun z => absurd rfl z)
      rcases r with _ | s
      · exact absurd rfl hb
      · exact BE.skip hN hl hB (btr_n hb)
theorem e72 {cv : Bool} {ct0 : zM} (h : WF σ) (ha : CA σ D ct0) (hf : ∀ b, ¬ (22 ≤ b ∧ b ≤ 30) → ct b = ct0 b) (hm : zTm ct 22 (σ 3)) : CE X (d + 6) 72 [.ref 28, .int (bcv cv)] D ct (fun v D' ct' => v = none ∧ D = D' ∧ SI σ cv ct0 ct' [] none) := by
  have hN := h.N
  refine CE_of (Nat.le_of_ble_eq_true rfl) ?_
  have hcv : zb (bcv cv) := by cases cv; exact Or.inl rfl; exact Or.inr rfl
  have hf1 : ∀ b, ¬ (22 ≤ b ∧ b ≤ 30) → (u2 (u2 ct 28 5 (bcv cv)) 28 6 (nI 0)) b = ct0 b := fun b hb => by rw [u2_n (by omega), u2_n (by omega), hf b hb]
  obtain ⟨_, _, ct1, he, rfl, rfl, g1, g2⟩ := f51 (X := X) (D := D) (ct := u2 (u2 ct 28 5 (bcv cv)) 28 6 (nI 0)) (d := d) h (ha.1.si hf1) (hm.keep fun b q1 q2 => by rw [u2_n (by omega), u2_n (by omega)]) h.now
  refine b72_0 hcv he ?_
  exact b72_17 (zQ_of ⟨rfl, rfl, fun b hb => by rw [g1 b (by omega) (by omega), hf1 b hb], by rw [g1 28 (by decide) (by decide)]; simp [u2_a], hm.keep fun b q1 q2 => by rw [g1 b (by omega) (by omega), u2_n (by omega), u2_n (by omega)], g2, fun i hi => absurd hi (Nat.not_lt_zero _), by show ct1 28 6 = nI 0; rw [g1 28 (by decide) (by decide)]; simp [u2_a]⟩)
/-- the search, from the empty set on -/
theorem f73 {cv : Bool} {ct0 : zM} (h : WF σ) (ha : CA σ D ct0) (hS : SI σ cv ct0 ct [] none) : CE X (d + 13) 73 [.ref 28, .int (nI 0), .int (nI 0), .int (nI 0)] D ct (fun v D' ct' => v = none ∧ D = D' ∧ (∀ b, ¬ (22 ≤ b ∧ b ≤ 30) → ct' b = ct0 b) ∧ ∃ r, RB (kwt σ cv) ct' r ∧ BE (sr σ * sc σ) (eli σ cv) (kwt σ cv) (pas σ cv) (fun _ => True) r) := by
  have hN := h.N
  obtain ⟨_, _, ct2, he2, rfl, rfl, r, hS2, hB2⟩ := e73 (X := X) (D := D) (d := d) (cv := cv) h ha 3 [] rfl trivial ct none hS (fun v hv q => absurd q (Nat.not_lt_zero _))
  refine ⟨_, _, ct2, he2, rfl, rfl, hS2.1, r, hS2.2.2.2.2.2, hB2.grow (fun _ _ _ => trivial) (fun v hv _ => Or.inl ?_)⟩
  have := dn_lt hN hv
  show dn v < 0 + 262144
  omega
theorem e79 {w : Nat → Nat} {r : Option (List Nat)} {j : Nat} {q : List Nat → Nat} (hR : RB w ct r) (hl : ∀ s, r = some s → s.length ≤ 3) (hj : j ≤ 3) (h0 : j ≠ 0) : EV X (d + 1) 79 [.ref 28, .int (nI j)] (mk D ct) (some (.int (ans q r (nI j)))) (mk D ct) := by
  refine EV_intro (Nat.le_of_ble_eq_true rfl) ?_
  rcases r with _ | s
  · exact b79_0 (fun _ => b79_36 ⟨rfl, rfl⟩) (fun z => absurd hR z)
  · obtain ⟨a1, a2, a3, a4⟩ := hR
    have hs := hl s rfl
    refine b79_0 (fun z => absurd (a1.symm.trans z) (by decide)) (fun _ => b79_7 (fun z => ?_) (fun _ => ?_))
    · rw [zlt (by omega) (by omega)] at z; omega
    unfold ans
    dsimp only
    rw [if_neg (fun z => h0 ((zeq (b := 0) (by omega) (by omega)).1 z))]
    refine b79_12 (fun z => b79_36 ⟨?_, rfl⟩) (fun z => ?_)
    · rw [a3] at z; rw [if_pos z]
    · rw [a3] at z
      rw [if_neg z]
      rw [zlt (by omega) (by omega)] at z
      refine b79_20 (fun z => ?_) (fun _ => b79_25 (j32 := j - 1) ⟨by rw [pk_sub (by omega)], by omega, by decide⟩ ⟨?_, rfl⟩)
      · rw [zlt (by omega) (by omega)] at z; omega
      · rw [nI_clamp (by omega), a4 (j - 1) (by omega)]
theorem kin_no {k : Int32} (h : k < nI 0 ∨ ¬ k ≤ nI 3) : ¬ kin k := fun z => h.elim (fun q => Int32.not_le.mpr q z.1) (fun q => q z.2)
/-- what least and canvases promise -/
def LQ (σ : zM) (cv : Bool) (k : Int32) (v : Option Value) : Prop := (¬ kin k ∧ v = some (.int (-1))) ∨ (kin k ∧ ∃ r, BE (sr σ * sc σ) (eli σ cv) (kwt σ cv) (pas σ cv) (fun _ => True) r ∧ v = some (.int (ans (if cv = true then List.length else kw (kwt σ cv)) r k)))
theorem LQ.one {cv : Bool} {k : Int32} {v v' : Option Value} (h : WF σ) (h1 : LQ σ cv k v) (h2 : LQ σ cv k v') : v = v' := by
  rcases h1 with ⟨a1, a2⟩ | ⟨a1, r, a2, a3⟩ <;> rcases h2 with ⟨b1, b2⟩ | ⟨b1, r', b2, b3⟩
  · rw [a2, b2]
  · exact absurd b1 a1
  · exact absurd a1 b1
  · rw [a3, b3, BE.one h.N a2 b2]
theorem k71 {k : Int32} (h : WF σ) (ha : CA σ D ct) : CE X (d + 14) 71 [.ref 0, .int k] D ct (fun v D' ct' => LQ σ false k v ∧ PC σ D ct D' ct') := by
  refine CE_of (Nat.le_of_ble_eq_true rfl) ?_
  have p0 := PC_tr ha (ct' := ct) fun _ _ => rfl
  refine b71_0 (fun h1 => b71_9 (zQ_of ⟨Or.inl ⟨kin_no (Or.inl h1), rfl⟩, p0⟩)) (fun h1 => b71_4 (fun h2 => ?_) (fun h2 => b71_9 (zQ_of ⟨Or.inl ⟨kin_no (Or.inr h2), rfl⟩, p0⟩)))
  have hk : kin k := ⟨Int32.not_lt.mp h1, h2⟩
  obtain ⟨j, hj, rfl⟩ := z_in (by decide) h1 h2
  obtain ⟨_, _, ct1, he, rfl, rfl, g1, g2⟩ := f42 (X := X) (D := D) (ct := ct) (d := d + 11) h ha.2.1
  refine b71_11 he ?_
  obtain ⟨_, _, ct9, he9, rfl, rfl, hS9⟩ := e72 (X := X) (D := D) (ct := ct1) (d := d + 7) (cv := false) h ha (fun b hb => g2 b (by omega)) g1
  refine b71_15 he9 ?_
  obtain ⟨_, _, ct2, he2, rfl, rfl, g3, r, hR, hB⟩ := f73 (X := X) (D := D) (ct := ct9) (d := d) (cv := false) h ha hS9
  refine b71_23 he2 ?_
  have hlen : ∀ s, r = some s → s.length ≤ 3 := fun s e => by subst e; exact zokl_len hB.1
  refine b71_33 (fun e => ?_) (fun e => b71_47 (e79 (q := kw (kwt σ false)) hR hlen hj (fun z => e (by rw [z]))) (b71_55 (zQ_of ⟨Or.inr ⟨hk, r, hB, rfl⟩, PC_tr ha g3⟩)))
  rw [zeq (b := 0) (by omega) (by omega)] at e
  subst e
  have e78 : EV X (d + 13) 78 [.ref 28] (mk D ct2) (some (.int (ans (kw (kwt σ false)) r (nI 0)))) (mk D ct2) := by
    refine EV_intro (Nat.le_of_ble_eq_true rfl) ?_
    rcases r with _ | s
    · exact b78_0 (fun _ => b78_14 ⟨rfl, rfl⟩) (fun z => absurd hR z)
    · exact b78_0 (fun z => absurd (hR.1.symm.trans z) (by decide)) (fun _ => b78_7 ⟨by rw [hR.2.1]; rfl, rfl⟩)
  exact b71_37 e78 (b71_44 (zQ_of ⟨Or.inr ⟨hk, r, hB, rfl⟩, PC_tr ha g3⟩))
theorem k80 {k : Int32} (h : WF σ) (ha : CA σ D ct) : CE X (d + 14) 80 [.ref 0, .int k] D ct (fun v D' ct' => LQ σ true k v ∧ PC σ D ct D' ct') := by
  refine CE_of (Nat.le_of_ble_eq_true rfl) ?_
  have p0 := PC_tr ha (ct' := ct) fun _ _ => rfl
  refine b80_0 (fun h1 => b80_9 (zQ_of ⟨Or.inl ⟨kin_no (Or.inl h1), rfl⟩, p0⟩)) (fun h1 => b80_4 (fun h2 => ?_) (fun h2 => b80_9 (zQ_of ⟨Or.inl ⟨kin_no (Or.inr h2), rfl⟩, p0⟩)))
  have hk : kin k := ⟨Int32.not_lt.mp h1, h2⟩
  obtain ⟨j, hj, rfl⟩ := z_in (by decide) h1 h2
  obtain ⟨_, _, ct1, he, rfl, rfl, g1, g2⟩ := f42 (X := X) (D := D) (ct := ct) (d := d + 11) h ha.2.1
  refine b80_11 he ?_
  obtain ⟨_, _, ct9, he9, rfl, rfl, hS9⟩ := e72 (X := X) (D := D) (ct := ct1) (d := d + 7) (cv := true) h ha (fun b hb => g2 b (by omega)) g1
  refine b80_15 he9 ?_
  obtain ⟨_, _, ct2, he2, rfl, rfl, g3, r, hR, hB⟩ := f73 (X := X) (D := D) (ct := ct9) (d := d) (cv := true) h ha hS9
  refine b80_23 he2 ?_
  have hlen : ∀ s, r = some s → s.length ≤ 3 := fun s e => by subst e; exact zokl_len hB.1
  refine b80_33 (fun e => ?_) (fun e => b80_47 (e79 (q := List.length) hR hlen hj (fun z => e (by rw [z]))) (b80_55 (zQ_of ⟨Or.inr ⟨hk, r, hB, rfl⟩, PC_tr ha g3⟩)))
  rw [zeq (b := 0) (by omega) (by omega)] at e
  subst e
  have e81 : EV X (d + 13) 81 [.ref 28] (mk D ct2) (some (.int (ans List.length r (nI 0)))) (mk D ct2) := by
    refine EV_intro (Nat.le_of_ble_eq_true rfl) ?_
    rcases r with _ | s
    · exact b81_0 (fun _ => b81_14 ⟨rfl, rfl⟩) (fun z => absurd hR z)
    · exact b81_0 (fun z => absurd (hR.1.symm.trans z) (by decide)) (fun _ => b81_7 ⟨by rw [hR.2.2.1]; rfl, rfl⟩)
  exact b80_37 e81 (b80_44 (zQ_of ⟨Or.inr ⟨hk, r, hB, rfl⟩, PC_tr ha g3⟩))
end
