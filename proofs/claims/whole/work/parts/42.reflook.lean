/-! The reference: its calls that look. -/
theorem in_lt2 {x : Int32} {n : Nat} (hn : n < 1000000) : (nI 0 ≤ x ∧ x ≤ nI n) ↔ (nI 0 ≤ x ∧ x < nI (n + 1)) := (in_lt hn).trans (by unfold sIn; exact decide_eq_true_iff)
theorem two_iff {w : Int32} : (nI 0 ≤ w ∧ w ≤ nI 1) ↔ (w = nI 0 ∨ w = nI 1) := by
  constructor
  · rintro ⟨h1, h2⟩
    obtain ⟨i, hi, rfl⟩ := z_in (by decide) (Int32.not_lt.mpr h1) h2
    rcases (show i = 0 ∨ i = 1 by omega) with rfl | rfl
    · exact Or.inl rfl
    · exact Or.inr rfl
  · rintro (rfl | rfl) <;> decide
theorem MA_mk {σ σ' ct ct' : zM} (ha : MA σ ct) (k34 : ct' 34 = ct 34) (k36 : ct' 36 = ct 36) (k38 : ct' 38 = ct 38) (k39 : ct' 39 = ct 39) (r0 : ∀ j, j < 5 → σ' 0 j = σ 0 j) (rn : ∀ b, 1 ≤ b → b ≠ 4 → b ≠ 5 → σ' b = σ b) (k5 : ct' 33 5 = ct 33 5) (k7 : ct' 33 7 = ct 33 7)
    (t : ct' 33 9 = σ' 0 6 ∧ ∀ j, j < sn σ' → ct' 40 j = σ' 4 j) (f1 : ct' 33 11 = σ' 0 5) (f2 : ∀ j, j < 2 * sf σ' → ct' 41 j = σ' 5 j) : MA σ' ct' := by
  obtain ⟨a1, a2, a3, a4, a5, a6, a7⟩ := ha
  have e3 : su σ' = su σ := by unfold su; rw [r0 3 (by decide)]
  have e4 : sk σ' = sk σ := by unfold sk; rw [r0 4 (by decide)]
  refine ⟨?_, ?_, ?_, ?_, t, f1, f2⟩
  · rw [k34, r0 0 (by decide), r0 1 (by decide), r0 2 (by decide), rn 1 (by decide) (by decide) (by decide), rn 2 (by decide) (by decide) (by decide)]; exact a1
  · rw [k36, rn 3 (by decide) (by decide) (by decide)]; exact a2
  · rw [k5, k38, r0 3 (by decide), e3]
    exact ⟨a3.1, fun i hi j hj => by rw [rn _ (by omega) (by omega) (by omega)]; exact a3.2 i hi j hj⟩
  · rw [k7, k39, r0 4 (by decide), e4]
    exact ⟨a4.1, fun i hi j hj => by rw [rn _ (by omega) (by omega) (by omega)]; exact a4.2 i hi j hj⟩
theorem sfine_c {σ : zM} {s s' : Nat → Int32} (h : WF σ) (e : ∀ j, j < 110 → s j = s' j) : sfine σ s = sfine σ s' := by
  have hN := h.N
  unfold sfine
  refine zfine_congr fun x hx => ?_
  unfold sp
  rw [e 108 (by decide), e 109 (by decide)]
  exact zP_congr hx (fun _ _ => rfl) (fun j hj => e j (by omega)) (fun j hj _ => by rw [e (36 + j) (by omega)]) (fun j hj => e (72 + j) (by omega))
theorem sgr_ok {N : Nat} {n : Int32} {s : Nat → Int32} (h : zOk N s) : zOk N (sgr n s) := by
  refine ⟨fun j hj => ?_, ?_⟩
  · unfold sgr
    rw [if_neg (by omega), if_neg (by omega)]
    exact h.1 j hj
  · unfold sgr
    rw [if_neg (by omega)]
    exact h.2
theorem sgr_w {n : Int32} {s : Nat → Int32} : sgr n s 108 = s 108 := by
  unfold sgr
  rw [if_neg (by omega)]
theorem sgr_0 {s : Nat → Int32} : sgr (nI 0) s = s := by
  funext j
  unfold sgr
  split
  · exact Int32.add_zero _
  · rfl
theorem sgr_1 {i : Nat} {s : Nat → Int32} : sgr (nI 1) (sgr (nI i) s) = sgr (nI (i + 1)) s := by
  funext j
  unfold sgr
  by_cases h : 36 ≤ j ∧ j < 72
  · have e : (if 36 ≤ j - 36 ∧ j - 36 < 72 ∧ s (j - 36 - 36) = nI 5 then s (j - 36) + nI i else s (j - 36)) = s (j - 36) := if_neg (by omega)
    rw [e]
    by_cases q : s (j - 36) = nI 5
    · rw [if_pos ⟨h.1, h.2, q⟩, if_pos ⟨h.1, h.2, q⟩, if_pos ⟨h.1, h.2, q⟩, Int32.add_assoc, nI_add]
    · rw [if_neg (fun z => q z.2.2), if_neg (fun z => q z.2.2), if_neg (fun z => q z.2.2)]
  · rw [if_neg (fun z => h ⟨z.1, z.2.1⟩), if_neg (fun z => h ⟨z.1, z.2.1⟩), if_neg (fun z => h ⟨z.1, z.2.1⟩)]
theorem sgr_sgo {n : Int32} {s : Nat → Int32} {j : Nat} (hj : j < 110) : sgr n s j = sgo n s j := by
  unfold sgr sgo
  rw [if_neg (show ¬ j = 110 by omega)]
theorem spa_if {σ : zM} {s : Nat → Int32} {x y : Int32} : (spa σ s = nI 0 ∧ σ 0 2 < nI (sfine σ s)) ∨ (¬ spa σ s = nI 0 ∧ spa σ s = nI 1 ∧ ¬ σ 0 2 < nI (sfine σ s)) := by
  unfold spa
  by_cases h : σ 0 2 < nI (sfine σ s)
  · rw [if_pos h]; exact Or.inl ⟨rfl, h⟩
  · rw [if_neg h]; exact Or.inr ⟨by decide, rfl, h⟩
section
variable {X : Nat × (Nat → Int32)} {D : zD} {ct σ : zM} {d a : Nat} {s : Nat → Int32}
theorem k157 {w f : Int32} (h : WF σ) (ha : MA σ ct) : CE X (d + 2) 157 [.ref 33, .int w, .int f] (zDm D) ct (fun v D' ct' => v = some (.int (g83 σ w f).1) ∧ PM (g83 σ w f).2 D ct D' ct') := by
  have hu := h.fp
  have u5 : ct 33 11 = nI (sf σ) := ha.2.2.2.2.2.1.trans h.2.2.2.2.2.1.1
  have bad : ¬ ((nI 0 ≤ w ∧ w < nI 4) ∧ (nI 0 ≤ f ∧ f ≤ nI 999)) → some (Value.int (-1)) = some (.int (g83 σ w f).1) ∧ PM (g83 σ w f).2 D ct (zDm D) ct := fun q => by
    have e : g83 σ w f = ((-1), σ) := by unfold g83; rw [if_neg q]
    rw [e]; exact ⟨rfl, PM_0 ha⟩
  refine CE_of (Nat.le_of_ble_eq_true rfl) (b157_0 (e108n (by decide) (by decide)) (b157_9 (fun q => b157_24 (zQ_of (bad ?_))) (fun q => ?_)))
  · rw [yn_0, in_lt2 (by decide)] at q; exact fun z => q z.1
  rw [yn_0, in_lt2 (by decide), Classical.not_not] at q
  refine b157_12 (e108n (by decide) (by decide)) (b157_21 (fun q2 => b157_24 (zQ_of (bad ?_))) (fun q2 => ?_))
  · rw [yn_0] at q2; exact fun z => q2 z.2
  rw [yn_0, Classical.not_not] at q2
  refine b157_26 (fun q3 => b157_35 (zQ_of ?_)) (fun q3 => ?_)
  · rw [u5, zeq (by omega) (by omega)] at q3
    have e : g83 σ w f = ((-3), σ) := by unfold g83; rw [if_pos ⟨q, q2⟩, if_neg (by omega)]
    rw [e]; exact ⟨rfl, PM_0 ha⟩
  rw [u5, zeq (by omega) (by omega)] at q3
  have e : g83 σ w f = (nI (sf σ + 1), sFine σ w f) := by unfold g83; rw [if_pos ⟨q, q2⟩, if_pos (by omega)]
  refine b157_38 (j49 := 2 * sf σ) ⟨by rw [u5, pk_mul], by omega, by decide⟩ (j63 := 2 * sf σ + 1) ⟨by rw [u5, pk_mul, nI_add], by omega, by decide⟩ (zQ_of ?_)
  rw [e, u5, nI_add]
  show some (Value.int (nI (sf σ + 1))) = some (Value.int (nI (sf σ + 1))) ∧ PM (sFine σ w f) D ct (zDm D) _
  have r5 : sFine σ w f 0 5 = nI (sf σ + 1) := by
    show (if (0 : Nat) = 0 then upd (σ 0) 5 _ else _) 5 = _
    rw [if_pos rfl, pk_us]
  have e5 : sf (sFine σ w f) = sf σ + 1 := by unfold sf; rw [r5, nI_clamp (by omega)]; rfl
  have r0 : ∀ j, j ≠ 5 → sFine σ w f 0 j = σ 0 j := fun j hj => by
    show (if (0 : Nat) = 0 then upd (σ 0) 5 _ else _) j = _
    rw [if_pos rfl, pk_un hj]
  have e6 : sn (sFine σ w f) = sn σ := by unfold sn; rw [r0 6 (by decide)]
  refine ⟨rfl, MA_mk ha (by simp (disch := decide) only [u2_n]) (by simp (disch := decide) only [u2_n]) (by simp (disch := decide) only [u2_n]) (by simp (disch := decide) only [u2_n]) (fun j hj => r0 j (by omega)) (fun b h1 h2 h3 => sFine_n (by omega) h3) ?_ ?_ ⟨?_, ?_⟩ ?_ ?_, fun b hb => ?_, rfl⟩
  · rw [u2_r, pk_un (by decide), u2_n (by decide), u2_n (by decide)]
  · rw [u2_r, pk_un (by decide), u2_n (by decide), u2_n (by decide)]
  · rw [u2_r, pk_un (by decide), u2_n (by decide), u2_n (by decide), r0 6 (by decide)]; exact ha.2.2.2.2.1.1
  · rw [e6, u2_n (by decide), u2_n (by decide), u2_n (by decide), sFine_n (by decide) (by decide)]; exact ha.2.2.2.2.1.2
  · rw [u2_r, pk_us, r5]
  · intro j hj
    rw [e5] at hj
    rw [u2_n (by decide), u2_r, u2_r]
    show _ = (if (5 : Nat) = 0 then _ else if (5 : Nat) = 5 then upd (upd (σ 5) (2 * sf σ) w) (2 * sf σ + 1) f else σ 5) j
    rw [if_neg (by decide), if_pos rfl]
    by_cases e1 : j = 2 * sf σ + 1
    · subst e1; rw [pk_us, pk_us]
    rw [pk_un e1, pk_un e1]
    by_cases e2 : j = 2 * sf σ
    · subst e2; rw [pk_us, pk_us]
    rw [pk_un e2, pk_un e2]
    exact ha.2.2.2.2.2.2 j (by omega)
  · have hb1 : b ≠ 33 := fun z => hb (by unfold mRow; omega)
    have hb2 : b ≠ 41 := fun z => hb (by unfold mRow; omega)
    rw [u2_n hb1, u2_n hb2, u2_n hb2]
theorem s0_k {k j : Nat} {v : Int32} (hj : j ≠ k) : s0 σ k v 0 j = σ 0 j := by
  show (if (0 : Nat) = 0 then upd (σ 0) k v else _) j = _
  rw [if_pos rfl, pk_un hj]
theorem s0_s {k : Nat} {v : Int32} : s0 σ k v 0 k = v := by
  show (if (0 : Nat) = 0 then upd (σ 0) k v else _) k = _
  rw [if_pos rfl, pk_us]
theorem k158 (ha : MA σ ct) : CE X (d + 1) 158 [.ref 33] (zDm D) ct (fun v D' ct' => v = some (.int (g84 σ).1) ∧ PM (g84 σ).2 D ct D' ct') := by
  refine CE_of (Nat.le_of_ble_eq_true rfl) (b158_0 (zQ_of ⟨?_, MA_mk ha (u2_n (by decide)) (u2_n (by decide)) (u2_n (by decide)) (u2_n (by decide)) (fun j hj => s0_k (by omega)) (fun b h1 h2 h3 => s0_n (by omega)) ?_ ?_ ⟨?_, ?_⟩ ?_ ?_, fun b hb => u2_n (fun z => hb (by unfold mRow; omega)), rfl⟩))
  · show some (Value.int (ct 33 11)) = some (Value.int (σ 0 5))
    rw [ha.2.2.2.2.2.1]
  · rw [u2_r, pk_un (by decide)]
  · rw [u2_r, pk_un (by decide)]
  · rw [u2_r, pk_un (by decide)]
    show _ = s0 σ 5 (nI 0) 0 6
    rw [s0_k (by decide)]; exact ha.2.2.2.2.1.1
  · rw [u2_n (by decide)]
    intro j hj
    have e6 : sn (g84 σ).2 = sn σ := by show (s0 σ 5 (nI 0) 0 6).toNatClampNeg = _; rw [s0_k (by decide)]; rfl
    rw [e6] at hj
    exact ha.2.2.2.2.1.2 j hj
  · rw [u2_r, pk_us]
    show nI 0 = s0 σ 5 (nI 0) 0 5
    rw [s0_s]
  · intro j hj
    have e5 : sf (g84 σ).2 = 0 := by show (s0 σ 5 (nI 0) 0 5).toNatClampNeg = _; rw [s0_s]; rfl
    rw [e5] at hj
    omega
theorem k109 (ha : MA σ ct) : CE X (d + 1) 109 [.ref 33] (zDm D) ct (fun v D' ct' => v = some (.int (g38 σ).1) ∧ PM (g38 σ).2 D ct D' ct') := by
  refine CE_of (Nat.le_of_ble_eq_true rfl) (b109_0 (zQ_of ⟨?_, MA_mk ha (u2_n (by decide)) (u2_n (by decide)) (u2_n (by decide)) (u2_n (by decide)) (fun j hj => s0_k (by omega)) (fun b h1 h2 h3 => s0_n (by omega)) ?_ ?_ ⟨?_, ?_⟩ ?_ ?_, fun b hb => u2_n (fun z => hb (by unfold mRow; omega)), rfl⟩))
  · show some (Value.int (ct 33 9)) = some (Value.int (σ 0 6))
    rw [ha.2.2.2.2.1.1]
  · rw [u2_r, pk_un (by decide)]
  · rw [u2_r, pk_un (by decide)]
  · rw [u2_r, pk_us]
    show nI 0 = s0 σ 6 (nI 0) 0 6
    rw [s0_s]
  · intro j hj
    have e6 : sn (g38 σ).2 = 0 := by show (s0 σ 6 (nI 0) 0 6).toNatClampNeg = _; rw [s0_s]; rfl
    rw [e6] at hj
    omega
  · rw [u2_r, pk_un (by decide)]
    show _ = s0 σ 6 (nI 0) 0 5
    rw [s0_k (by decide)]; exact ha.2.2.2.2.2.1
  · rw [u2_n (by decide)]
    intro j hj
    have e5 : sf (g38 σ).2 = sf σ := by show (s0 σ 6 (nI 0) 0 5).toNatClampNeg = _; rw [s0_k (by decide)]; rfl
    rw [e5] at hj
    exact ha.2.2.2.2.2.2 j hj
theorem k107 {x : Int32} (h : WF σ) (ha : MA σ ct) : CE X (d + 2) 107 [.ref 33, .int x] (zDm D) ct (fun v D' ct' => v = some (.int (g37 σ x).1) ∧ PM (g37 σ x).2 D ct D' ct') := by
  have hu := h.np
  have u9 : ct 33 9 = nI (sn σ) := ha.2.2.2.2.1.1.trans h.2.2.2.2.2.2.1.1
  refine CE_of (Nat.le_of_ble_eq_true rfl) (b107_0 (e108n (by decide) (by decide)) (b107_11 (fun q => b107_14 (zQ_of ?_)) (fun q => ?_)))
  · rw [yn_0] at q
    have e : g37 σ x = ((-1), σ) := by unfold g37; rw [if_neg q]
    rw [e]; exact ⟨rfl, PM_0 ha⟩
  rw [yn_0, Classical.not_not] at q
  refine b107_16 (fun q3 => b107_26 (zQ_of ?_)) (fun q3 => ?_)
  · rw [u9, zeq (by omega) (by omega)] at q3
    have e : g37 σ x = ((-3), σ) := by unfold g37; rw [if_pos q, if_neg (by omega)]
    rw [e]; exact ⟨rfl, PM_0 ha⟩
  rw [u9, zeq (by omega) (by omega)] at q3
  have e : g37 σ x = (nI (sn σ + 1), sAdd σ x) := by unfold g37; rw [if_pos q, if_pos (by omega)]
  refine b107_29 (j38 := sn σ) ⟨u9, by omega, by decide⟩ (zQ_of ?_)
  rw [e, u9, nI_add]
  show some (Value.int (nI (sn σ + 1))) = some (Value.int (nI (sn σ + 1))) ∧ PM (sAdd σ x) D ct (zDm D) _
  have r6 : sAdd σ x 0 6 = nI (sn σ + 1) := by
    show (if (0 : Nat) = 0 then upd (σ 0) 6 _ else _) 6 = _
    rw [if_pos rfl, pk_us]
  have e6 : sn (sAdd σ x) = sn σ + 1 := by unfold sn; rw [r6, nI_clamp (by omega)]; rfl
  have r0 : ∀ j, j ≠ 6 → sAdd σ x 0 j = σ 0 j := fun j hj => by
    show (if (0 : Nat) = 0 then upd (σ 0) 6 _ else _) j = _
    rw [if_pos rfl, pk_un hj]
  have e5 : sf (sAdd σ x) = sf σ := by unfold sf; rw [r0 5 (by decide)]
  refine ⟨rfl, MA_mk ha (by simp (disch := decide) only [u2_n]) (by simp (disch := decide) only [u2_n]) (by simp (disch := decide) only [u2_n]) (by simp (disch := decide) only [u2_n]) (fun j hj => r0 j (by omega)) (fun b h1 h2 h3 => sAdd_n (by omega) h2) ?_ ?_ ⟨?_, ?_⟩ ?_ ?_, fun b hb => ?_, rfl⟩
  · rw [u2_r, pk_un (by decide), u2_n (by decide)]
  · rw [u2_r, pk_un (by decide), u2_n (by decide)]
  · rw [u2_r, pk_us, r6]
  · intro j hj
    rw [e6] at hj
    rw [u2_n (by decide), u2_r]
    show _ = (if (4 : Nat) = 0 then _ else if (4 : Nat) = 4 then upd (σ 4) (sn σ) x else σ 4) j
    rw [if_neg (by decide), if_pos rfl]
    by_cases e1 : j = sn σ
    · subst e1; rw [pk_us, pk_us]
    rw [pk_un e1, pk_un e1]
    exact ha.2.2.2.2.1.2 j (by omega)
  · rw [u2_r, pk_un (by decide), u2_n (by decide), r0 5 (by decide)]; exact ha.2.2.2.2.2.1
  · rw [e5, u2_n (by decide), u2_n (by decide), sAdd_n (by decide) (by decide)]; exact ha.2.2.2.2.2.2
  · have hb1 : b ≠ 33 := fun z => hb (by unfold mRow; omega)
    have hb2 : b ≠ 40 := fun z => hb (by unfold mRow; omega)
    rw [u2_n hb1, u2_n hb2]
theorem k132 {w : Int32} (h : WF σ) (ha : MA σ ct) : CE X (d + 7) 132 [.ref 33, .int w] (zDm D) ct (fun v D' ct' => v = some (.int (f50 σ w)) ∧ PM σ D ct D' ct') := by
  refine CE_of (Nat.le_of_ble_eq_true rfl) ?_
  unfold f50
  refine b132_0 (fun q => b132_4 (e133 h ha.mp rfl ha.mt h.now h.ww.1) (b132_12 (zQ_of ⟨by rw [if_pos q], PM_0 ha⟩))) (fun q => ?_)
  rw [if_neg q]
  refine b132_15 (fun q2 => b132_20 (e134 h ha.mp rfl ha.mt h.now h.ww.1) ?_) (fun q2 => ?_)
  · rw [if_pos q2]
    rcases spa_if (σ := σ) (s := σ 3) (x := 0) (y := 0) with ⟨p1, p2⟩ | ⟨p1, p2, p3⟩
    · exact b132_28 (fun _ => b132_35 (zQ_of ⟨by rw [if_pos p2], PM_0 ha⟩)) (fun z => absurd p1 z)
    · exact b132_28 (fun z => absurd z p1) (fun _ => b132_31 (zQ_of ⟨by rw [if_neg p3], PM_0 ha⟩))
  rw [if_neg q2]
  refine b132_39 (fun q3 => b132_44 (e135 h ha.mp ha.mt) (b132_48 (zQ_of ⟨by rw [if_pos q3], PM_0 ha⟩))) (fun q3 => b132_51 (zQ_of ⟨by rw [if_neg q3], PM_0 ha⟩))
theorem k123 {x w : Int32} (h : WF σ) (ha : MA σ ct) : CE X (d + 5) 123 [.ref 33, .int x, .int w] (zDm D) ct (fun v D' ct' => v = some (.int (f41 σ x w)) ∧ PM σ D ct D' ct') := by
  have hN := h.N
  refine CE_of (Nat.le_of_ble_eq_true rfl) (b123_0 (e124 h ha.mp) (b123_5 (fun q => b123_8 (zQ_of ⟨?_, PM_0 ha⟩)) (fun q => ?_)))
  · rw [yn_0] at q
    unfold f41; rw [if_neg q]
  rw [yn_0, Classical.not_not] at q
  obtain ⟨j, hj, rfl⟩ := sIn_of q (by omega)
  have hc : (nI j).toNatClampNeg = j := nI_clamp (by omega)
  refine b123_10 ?_
  by_cases hw : nI 0 ≤ w ∧ w ≤ nI 5
  · obtain ⟨i, hi, rfl⟩ := z_in (by decide) (Int32.not_lt.mpr hw.1) hw.2
    unfold f41
    rw [if_pos q, hc]
    have zz' : ∀ k, k ≤ 72 → zix (nI k + nI j) (k + j) 111 := fun k hk => ⟨by rw [nI_add], by omega, by decide⟩
    rcases (show i = 0 ∨ i = 1 ∨ i = 2 ∨ i = 3 ∨ i = 4 ∨ i = 5 by omega) with rfl | rfl | rfl | rfl | rfl | rfl
    · refine xsw_in (n := 0) (by decide) rfl (b123_48 (j56 := 9 + j) ⟨by rw [nI_add], by omega, by decide⟩ (zQ_of ⟨?_, PM_0 ha⟩))
      rw [if_pos rfl, ha.mp.2.2.2.1 j (by omega)]
    · refine xsw_in (n := 1) (by decide) rfl (b123_58 (j65 := j) ⟨by rw [nI_add, Nat.zero_add], by omega, by decide⟩ (zQ_of ⟨?_, PM_0 ha⟩))
      rw [if_neg (by decide), if_pos rfl, ha.mt j (by omega)]
    · refine xsw_in (n := 2) (by decide) rfl (b123_67 (e125 h ha.mp rfl ha.mt h.now h.ww.1 hj) (b123_76 (zQ_of ⟨?_, PM_0 ha⟩)))
      rw [if_neg (by decide), if_neg (by decide), if_pos rfl]
      rfl
    · refine xsw_in (n := 3) (by decide) rfl (b123_77 (e129 h ha.mp rfl ha.mt h.now h.ww.1 hj) (b123_86 (zQ_of ⟨?_, PM_0 ha⟩)))
      rw [if_neg (by decide), if_neg (by decide), if_neg (by decide), if_pos rfl]
    · refine xsw_in (n := 4) (by decide) rfl (b123_87 (zz' 36 (by decide)) (zQ_of ⟨?_, PM_0 ha⟩))
      rw [if_neg (by decide), if_neg (by decide), if_neg (by decide), if_neg (by decide), if_pos rfl, ha.mt _ (by omega)]
    · refine xsw_in (n := 5) (by decide) rfl (b123_97 (zz' 72 (by decide)) (zQ_of ⟨?_, PM_0 ha⟩))
      rw [if_neg (by decide), if_neg (by decide), if_neg (by decide), if_neg (by decide), if_neg (by decide), if_pos rfl, ha.mt _ (by omega)]
  · have hw2 : w < nI 0 ∨ ¬ w ≤ nI 5 := by
      by_cases z : nI 0 ≤ w
      · exact Or.inr fun y => hw ⟨z, y⟩
      · exact Or.inl (Int32.not_le.mp z)
    refine xsw_out ?_ (b123_107 (zQ_of ⟨by rw [f41_n hw2], PM_0 ha⟩))
    have a : (nI 0).toInt = 0 := by decide
    have b : (nI 5).toInt = 5 := by decide
    show w.toInt - 0 < 0 ∨ (6 : Int) ≤ w.toInt - 0
    rcases hw2 with z | z
    · rw [Int32.lt_iff_toInt_lt] at z; omega
    · rw [Int32.le_iff_toInt_le] at z; omega
theorem k147 {n w : Int32} (h : WF σ) (ha : MA σ ct) : CE X (d + 7) 147 [.ref 33, .int n, .int w] (zDm D) ct (fun v D' ct' => v = some (.int (f68 σ n w)) ∧ PM σ D ct D' ct') := by
  have bad : ¬ ((nI 0 ≤ n ∧ n ≤ nI 20) ∧ (w = nI 0 ∨ w = nI 1)) → some (Value.int (-1)) = some (.int (f68 σ n w)) ∧ PM σ D ct (zDm D) ct := fun q => by
    unfold f68; rw [if_neg q]; exact ⟨rfl, PM_0 ha⟩
  refine CE_of (Nat.le_of_ble_eq_true rfl) (b147_0 (e108n (by decide) (by decide)) (b147_9 (fun q => b147_19 (zQ_of (bad ?_))) (fun q => ?_)))
  · rw [yn_0] at q; exact fun z => q z.1
  rw [yn_0, Classical.not_not] at q
  refine b147_12 e148 (b147_16 (fun q2 => b147_19 (zQ_of (bad ?_))) (fun q2 => ?_))
  · rw [yn_0, two_iff] at q2; exact fun z => q2 z.2
  rw [yn_0, two_iff, Classical.not_not] at q2
  obtain ⟨_, _, ct1, he, rfl, rfl, k1, k2⟩ := e149 (X := X) (D := D) (d := d + 4) ha.mt
  obtain ⟨_, _, ct2, he2, rfl, rfl, k3, k4⟩ := e145 (X := X) (D := D) (d := d + 5) (ct := ct1) (a := 37) (n := n) rfl k2
  refine b147_21 he (b147_25 he2 ?_)
  have fr : ∀ b, b ≠ 37 → ct2 b = ct b := fun b hb => by rw [k3 b hb, k1 b hb]
  have hp2 : MP σ ct2 := ha.mp.k (fr 34 (by decide))
  have ec : sfine σ (sgr n (σ 3)) = sfine σ (sgo n (σ 3)) := sfine_c h fun j hj => sgr_sgo hj
  unfold f68
  rw [if_pos ⟨q, q2⟩]
  refine b147_33 (fun q3 => b147_37 (e133 h hp2 rfl k4 (sgr_ok h.now) (zw_of h.ww.1 sgr_w)) (b147_45 (zQ_of ⟨by rw [if_pos q3, ec], PM_look ha fr⟩))) (fun q3 => b147_48 (e134 h hp2 rfl k4 (sgr_ok h.now) (zw_of h.ww.1 sgr_w)) ?_)
  rw [if_neg q3, ← ec]
  rcases spa_if (σ := σ) (s := sgr n (σ 3)) (x := 0) (y := 0) with ⟨p1, p2⟩ | ⟨p1, p2, p3⟩
  · exact b147_56 (fun _ => b147_63 (zQ_of ⟨by rw [if_pos p2], PM_look ha fr⟩)) (fun z => absurd p1 z)
  · exact b147_56 (fun z => absurd z p1) (fun _ => b147_59 (zQ_of ⟨by rw [if_neg p3], PM_look ha fr⟩))
theorem k150 (h : WF σ) (ha : MA σ ct) : CE X (d + 7) 150 [.ref 33] (zDm D) ct (fun v D' ct' => v = some (.int (f70 σ)) ∧ PM σ D ct D' ct') := by
  obtain ⟨_, _, ct1, he, rfl, rfl, k1, k2⟩ := e149 (X := X) (D := D) (d := d + 4) ha.mt
  refine CE_of (Nat.le_of_ble_eq_true rfl) (b150_0 he (b150_4 ?_))
  refine z_loop0 21 (fun i ls ct2 => ls = [.ref 33, .int (nI i)] ∧ (∀ b, b ≠ 37 → ct2 b = ct b) ∧ mT ct2 37 (sgr (nI i) (σ 3)) ∧ f70 σ = fu (fun n => decide (σ 0 2 < nI (sfine σ (sgo (nI n) (σ 3))))) (21 - i) i) ⟨rfl, k1, by rw [sgr_0]; exact k2, rfl⟩ ?_ ?_
  · rintro i _ ct2 hi ⟨rfl, g1, g2, g3⟩ ih
    refine b150_6 (fun z => ?_) (fun _ => ?_)
    · rw [zle (by omega) (by omega)] at z; omega
    rw [show 21 - i = (21 - (i + 1)) + 1 by omega, fu_succ] at g3
    have ec : sfine σ (sgr (nI i) (σ 3)) = sfine σ (sgo (nI i) (σ 3)) := sfine_c h fun j hj => sgr_sgo hj
    refine b150_12 (e134 h (ha.mp.k (g1 34 (by decide))) rfl g2 (sgr_ok h.now) (zw_of h.ww.1 sgr_w)) ?_
    rcases spa_if (σ := σ) (s := sgr (nI i) (σ 3)) (x := 0) (y := 0) with ⟨p1, p2⟩ | ⟨p1, p2, p3⟩
    · refine b150_20 (fun _ => b150_23 (zQ_of ⟨?_, PM_look ha g1⟩)) (fun z => absurd p1 z)
      rw [ec] at p2
      rw [g3, if_pos (decide_eq_true p2)]
    · rw [ec] at p3
      rw [if_neg (fun z => p3 (of_decide_eq_true z))] at g3
      obtain ⟨_, _, ct3, he3, rfl, rfl, k3, k4⟩ := e145 (X := X) (D := D) (d := d + 5) (ct := ct2) (a := 37) (n := nI 1) rfl g2
      refine b150_20 (fun z => absurd z p1) (fun _ => b150_25 he3 (b150_33 (ih _ _ ⟨by rw [nI_add], fun b hb => by rw [k3 b hb, g1 b hb], by rw [← sgr_1]; exact k4, g3⟩)))
  · rintro _ ct2 ⟨rfl, g1, g2, g3⟩
    exact b150_6 (fun _ => b150_39 (zQ_of ⟨by rw [g3]; rfl, PM_look ha g1⟩)) (fun z => absurd ((zle (by omega) (by omega)).2 (Nat.le_refl _)) z)
theorem mT_wd {w : Int32} (hm : mT ct a s) : mT (u2 ct a 108 w) a (swd w s) := by
  intro i hi
  rw [u2_r]
  unfold swd
  by_cases e : i = 108
  · subst e; rw [pk_us, pk_us]
  · rw [pk_un e, pk_un e]; exact hm i hi
theorem mT_ey {w : Int32} (hm : mT ct a s) : mT (u2 ct a 109 w) a (sey w s) := by
  intro i hi
  rw [u2_r]
  unfold sey
  by_cases e : i = 109
  · subst e; rw [pk_us, pk_us]
  · rw [pk_un e, pk_un e]; exact hm i hi
theorem k165 {w : Int32} (hw : zwi w) (h : WF σ) (ha : MA σ ct) : CE X (d + 6) 165 [.ref 33, .int w] (zDm D) ct (fun v D' ct' => v = some (.int (nI (sfine σ (swd w (σ 3))))) ∧ PM σ D ct D' ct') := by
  obtain ⟨_, _, ct1, he, rfl, rfl, k1, k2⟩ := e149 (X := X) (D := D) (d := d + 3) ha.mt
  refine CE_of (Nat.le_of_ble_eq_true rfl) (b165_0 he (b165_4 (e133 h (ha.mp.k (by rw [u2_n (by decide), k1 34 (by decide)])) rfl (mT_wd k2) (swd_ok h.now) (by unfold swd; rw [pk_us]; exact hw)) (b165_20 (zQ_of ⟨rfl, PM_look ha fun b hb => by rw [u2_n hb, k1 b hb]⟩))))
theorem k164 {w : Int32} (h : WF σ) (ha : MA σ ct) : CE X (d + 7) 164 [.ref 33, .int w] (zDm D) ct (fun v D' ct' => v = some (.int (f91 σ w)) ∧ PM σ D ct D' ct') := by
  unfold f91
  refine CE_of (Nat.le_of_ble_eq_true rfl) (b164_0 (e108n (by decide) (by decide)) (b164_9 (fun q => b164_20 (zQ_of ⟨?_, PM_0 ha⟩)) (fun q => ?_)))
  · rw [yn_0, in_lt2 (by decide)] at q; rw [if_neg q]
  rw [yn_0, in_lt2 (by decide), Classical.not_not] at q
  have hw : zwi w := by
    obtain ⟨j, hj, rfl⟩ := z_in (n := 3) (x := w) (by decide) (Int32.not_lt.mpr q.1) (le3_of q.2)
    exact ⟨j, by omega, rfl⟩
  obtain ⟨_, _, ct1, he, rfl, hp⟩ := k165 (X := X) (D := D) (d := d) (w := w) hw h ha
  obtain ⟨p1, p2, rfl⟩ := hp
  exact b164_12 he (b164_17 (zQ_of ⟨by rw [if_pos q], p1, p2, rfl⟩))
end
