/-! The class's calls that change the town. -/
def sRem (σ : zM) : zM := fun b => if b = 0 then upd (σ 0) 3 (nI (if su σ < 8 then su σ + 1 else su σ)) else if b = 10 then σ 3 else if 11 ≤ b ∧ b < 18 then σ (b - 1) else σ b
def sNow (σ : zM) (s : Nat → Int32) : zM := fun b => if b = 3 then s else σ b
def sPop (σ : zM) : zM := fun b => if b = 0 then upd (σ 0) 3 (nI (su σ - 1)) else if b = 3 then σ 10 else if 10 ≤ b ∧ b < 17 then σ (b + 1) else σ b
def sKeep (σ : zM) : zM := fun b => if b = 0 then upd (σ 0) 4 (nI (sk σ + 1)) else if b = 20 then σ 3 else if b = 21 then σ 20 else σ b
def sBack (σ : zM) : zM := fun b => if b = 0 then upd (upd (σ 0) 4 (nI (sk σ - 1))) 3 (nI 0) else if b = 3 then σ 20 else if b = 20 then σ 21 else σ b
theorem sNow_n {σ : zM} {s : Nat → Int32} {b : Nat} (h : b ≠ 3) : sNow σ s b = σ b := if_neg h
theorem su_now {σ : zM} {s : Nat → Int32} : su (sNow σ s) = su σ := rfl
theorem WF.up {σ : zM} (h : WF σ) : su σ ≤ 8 := h.2.2.2.1.2
theorem WF.kp {σ : zM} (h : WF σ) : sk σ ≤ 2 := h.2.2.2.2.1.2
theorem WF.fp {σ : zM} (h : WF σ) : sf σ ≤ 6 := h.2.2.2.2.2.1.2
theorem WF.np {σ : zM} (h : WF σ) : sn σ ≤ 200 := h.2.2.2.2.2.2.1.2
theorem WF.now {σ : zM} (h : WF σ) : zOk (sr σ * sc σ) (σ 3) := h.2.2.2.2.2.2.2.2.2.1
theorem WF.past {σ : zM} (h : WF σ) : ∀ i, i < su σ → zOk (sr σ * sc σ) (σ (10 + i)) := h.2.2.2.2.2.2.2.2.2.2.1
theorem WF.kept {σ : zM} (h : WF σ) : ∀ i, i < sk σ → zOk (sr σ * sc σ) (σ (20 + i)) := h.2.2.2.2.2.2.2.2.2.2.2.1
theorem WW_now {σ : zM} {s : Nat → Int32} (h : WW σ) (hw : zwi (s 108)) : WW (sNow σ s) := by
  refine ⟨hw, fun i hi => ?_, fun i hi => ?_, h.2.2.2⟩
  · rw [sNow_n (by omega)]; exact h.2.1 i hi
  · rw [sNow_n (by omega)]; exact h.2.2.1 i hi
theorem WF_now {σ : zM} {s : Nat → Int32} (h : WF σ) (hs : zOk (sr σ * sc σ) s) (hw : zwi (s 108)) : WF (sNow σ s) := by
  have hww := WW_now h.ww hw
  obtain ⟨h1, h2, h3, h4, h5, h6, h7, h8, h9, h10, h11, h12, h13⟩ := h
  refine ⟨h1, h2, h3, h4, h5, h6, h7, h8, h9, hs, fun i hi => ?_, fun i hi => ?_, h13.1, hww⟩
  · rw [sNow_n (by omega)]; exact h11 i hi
  · rw [sNow_n (by omega)]; exact h12 i hi
theorem su_rem {σ : zM} (h : WF σ) : su (sRem σ) = if su σ < 8 then su σ + 1 else su σ := by
  show (nI (if su σ < 8 then su σ + 1 else su σ)).toNatClampNeg = _
  have := h.up
  exact nI_clamp (by split <;> omega)
theorem sRem_p {σ : zM} {i : Nat} (hi : i < 8) : sRem σ (10 + i) = spu (σ 3) (fun i => σ (10 + i)) i := by
  unfold sRem spu
  rw [if_neg (by omega)]
  by_cases h : i = 0
  · subst h; rfl
  · rw [if_neg (by omega), if_pos (by omega), if_neg h]
    show σ (10 + i - 1) = σ (10 + (i - 1))
    rw [show 10 + (i - 1) = 10 + i - 1 by omega]
theorem WW_rem {σ : zM} (h : WF σ) : WW (sRem σ) := by
  have hu := su_rem h
  have w := h.ww
  refine ⟨w.1, fun i hi => ?_, fun i hi => ?_, w.2.2.2⟩
  · rw [hu] at hi
    have hu8 := h.up
    have hi8 : i < 8 := by split at hi <;> omega
    rw [sRem_p hi8]
    unfold spu
    split
    · exact w.1
    · exact w.2.1 (i - 1) (by split at hi <;> omega)
  · have : sRem σ (20 + i) = σ (20 + i) := by
      unfold sRem
      rw [if_neg (by omega), if_neg (by omega), if_neg (by omega)]
    rw [this]; exact w.2.2.1 i hi
theorem WF_rem {σ : zM} (h : WF σ) : WF (sRem σ) := by
  have hww := WW_rem h
  have hu := su_rem h
  have hu8 := h.up
  have hn := h.now
  obtain ⟨h1, h2, h3, h4, h5, h6, h7, h8, h9, h10, h11, h12, h13⟩ := h
  refine ⟨h1, h2, h3, ⟨?_, ?_⟩, h5, h6, h7, h8, h9, hn, fun i hi => ?_, fun i hi => ?_, h13.1, hww⟩
  · rw [hu]; rfl
  · rw [hu]; split <;> omega
  · rw [hu] at hi
    have hi8 : i < 8 := by split at hi <;> omega
    rw [sRem_p hi8]
    unfold spu
    split
    · exact hn
    · exact h11 (i - 1) (by split at hi <;> omega)
  · have : sRem σ (20 + i) = σ (20 + i) := by
      unfold sRem
      rw [if_neg (by omega), if_neg (by omega), if_neg (by omega)]
    rw [this]; exact h12 i hi
theorem CR.congr {ct : zM} {q n : Nat} {f : Nat → Option Nat} {h h' : Nat → Nat → Int32} (hr : CR ct q f n h) (e : ∀ i, i < n → h i = h' i) : CR ct q f n h' := by
  obtain ⟨h1, t, ht, h2, h3⟩ := hr
  refine ⟨h1, t, ht, h2, fun i hi => ?_⟩
  obtain ⟨a, ha, hm⟩ := h3 i hi
  exact ⟨a, ha, by rw [← e i hi]; exact hm⟩
theorem CA.now {σ : zM} {D : zD} {ct ct' : zM} {s : Nat → Int32} (h : CA σ D ct) (hm : zTm ct' 14 s) (k : ∀ b, ¬ (14 ≤ b ∧ b ≤ 17) → ct' b = ct b) : CA (sNow σ s) D ct' := by
  obtain ⟨a1, a2, a3, a4, a5, a6, a7⟩ := h
  refine ⟨?_, hm, ?_, ?_, a5, ?_, ?_⟩
  · unfold CP
    rw [k 11 (by omega), k 12 (by omega), k 13 (by omega)]
    exact a1
  · exact (a3.keep (D := D) (fun i a ha => (a5.1 i a ha).1) (k 18 (by omega)) (fun b hb => k b (by omega))).congr fun i _ => (sNow_n (by omega)).symm
  · exact (a4.keep (D := D) (fun i a ha => (a5.2.1 i a ha).1) (k 20 (by omega)) (fun b hb => k b (by omega))).congr fun i _ => (sNow_n (by omega)).symm
  · unfold CF
    rw [k 0 (by omega), k 31 (by omega), k 32 (by omega)]
    exact a6
  · unfold CX
    rw [k 1 (by omega), k 2 (by omega)]
    exact a7
section
variable {X : Nat × (Nat → Int32)} {D : zD} {E : zD} {ct σ : zM} {d a : Nat}
theorem CA.bits (h : WF σ) (ha : CA σ D ct) : ∀ j, j < 36 → zb (ct 17 j) := fun j hj => by
  rw [(ha.2.1.1 j hj).2.2]
  exact (h.now.1 j hj).2
/-- the town is remembered -/
theorem k57 (h : WF σ) (ha : CA σ (zDm E) ct) : CE X (d + 2) 57 [.ref 18, .ref 14] (zDm E) ct (fun v D' ct' => v = none ∧ (∃ E', D' = zDm E' ∧ E.1 ≤ E'.1 ∧ E'.1 ≤ E.1 + 1) ∧ CA (sRem σ) D' ct' ∧ ∀ b, b < 45 → b ≠ 18 → ct' b = ct b) := by
  refine (e57 (q := 18) (q2 := 20) (Or.inl ⟨rfl, rfl⟩) ha.2.2.2.2.1 ha.2.2.1 ha.2.2.2.1 h.up ha.2.1 (CA.bits h ha)).mono fun v D' ct' q => ?_
  obtain ⟨q1, q2, q3, q4, q5, q6⟩ := q
  refine ⟨q1, q2, ⟨?_, ha.2.1.keep fun b z1 z2 => q6 b (by omega) (by omega), ?_, ?_, q3, ?_, ?_⟩, q6⟩
  · unfold CP
    rw [q6 11 (by omega) (by omega), q6 12 (by omega) (by omega), q6 13 (by omega) (by omega)]
    exact ha.1
  · rw [su_rem h]
    refine CR.congr q4 fun i hi => ?_
    have := h.up
    exact (sRem_p (by split at hi <;> omega)).symm
  · refine CR.congr q5 fun i hi => ?_
    show σ (20 + i) = sRem σ (20 + i)
    unfold sRem
    rw [if_neg (by omega), if_neg (by omega), if_neg (by omega)]
  · unfold CF
    rw [q6 0 (by omega) (by omega), q6 31 (by omega) (by omega), q6 32 (by omega) (by omega)]
    exact ha.2.2.2.2.2.1
  · unfold CX
    rw [q6 1 (by omega) (by omega), q6 2 (by omega) (by omega)]
    exact ha.2.2.2.2.2.2
/-- remembered, and then changed -/
theorem PC_ch {E' : zD} {ct1 ct2 : zM} {s : Nat → Int32} (ha : CA (sRem σ) (zDm E') ct1) (hE : E.1 ≤ E'.1 ∧ E'.1 ≤ E.1 + 1) (hm : zTm ct2 14 s) (k1 : ∀ b, b < 45 → b ≠ 18 → ct1 b = ct b) (k2 : ∀ b, ¬ (14 ≤ b ∧ b ≤ 17) → ct2 b = ct1 b) : PC (sNow (sRem σ) s) (zDm E) ct (zDm E') ct2 :=
  ⟨ha.now hm k2, fun b hb => by unfold mRow at hb; rw [k2 b (by omega), k1 b (by omega) (by omega)], by unfold zDm; dsimp only; omega, by unfold zDm; dsimp only; omega⟩
def g56 (σ : zM) (x : Int32) : Int32 × zM := if sIn (sr σ * sc σ) x = true then (if σ 3 x.toNatClampNeg = σ 1 x.toNatClampNeg then ((-2), σ) else (nI (zz (σ 1 x.toNatClampNeg)), sNow (sRem σ) (spl x.toNatClampNeg (σ 1 x.toNatClampNeg) (nI 0) (σ 3)))) else ((-1), σ)
theorem k56 {x : Int32} (h : WF σ) (ha : CA σ (zDm E) ct) : CE X (d + 3) 56 [.ref 0, .int x] (zDm E) ct (fun v D' ct' => v = some (.int (g56 σ x).1) ∧ PC (g56 σ x).2 (zDm E) ct D' ct') := by
  have hN := h.N
  refine CE_of (Nat.le_of_ble_eq_true rfl) ?_
  have p0 := PC_lk ha (ct' := ct) fun _ _ => rfl
  unfold g56
  by_cases hx : ∃ j, j < sr σ * sc σ ∧ x = nI j
  · obtain ⟨j, hj, rfl⟩ := hx
    rw [if_pos (sIn_y hj (by omega)), nI_clamp (by omega)]
    have zx : zix (nI j) j 36 := zix_nI (by omega) (by decide)
    have h12 := ha.1.2.2.2.1 j (by omega)
    have h15 := (ha.2.1.1 j (by omega)).1
    refine b56_0 (e30y rfl (h.V ha.1) hj) (b56_8 (fun z => absurd z (by decide)) fun _ => ?_)
    refine b56_13 zx zx (fun h1 => b56_36 (zQ_of ?_)) (fun h1 => ?_)
    · rw [h12, h15] at h1
      rw [if_pos h1]
      exact ⟨rfl, p0⟩
    · rw [h12, h15] at h1
      rw [if_neg h1, h12]
      obtain ⟨_, _, ct1, he, rfl, ⟨E', rfl, hE⟩, g1, g2⟩ := k57 (X := X) (d := d) h ha
      refine b56_39 he (b56_50 (e31 rfl (by omega)) (b56_60 (e46 (h.2.2.2.2.2.2.2.1 j (by omega))) (b56_64 (zQ_of ⟨rfl, PC_ch g1 hE (zTm_pl g1.2.1 (by omega)) g2 fun b hb => by rw [u2_n (by omega), u2_n (by omega)]⟩))))
  · rw [sIn_n hx (by omega)]
    exact b56_0 (e30n rfl (h.V ha.1) hx) (b56_8 (fun _ => b56_11 (zQ_of ⟨rfl, p0⟩)) fun z => absurd rfl z)
def g58 (σ : zM) (x w : Int32) : Int32 × zM := if sIn (sr σ * sc σ) x = true ∧ sIn 8 w = true then (if σ 3 x.toNatClampNeg = w then ((-2), σ) else (σ 3 x.toNatClampNeg, sNow (sRem σ) (spl x.toNatClampNeg w (nI 0) (σ 3)))) else ((-1), σ)
theorem k58 {x w : Int32} (h : WF σ) (ha : CA σ (zDm E) ct) : CE X (d + 3) 58 [.ref 0, .int x, .int w] (zDm E) ct (fun v D' ct' => v = some (.int (g58 σ x w).1) ∧ PC (g58 σ x w).2 (zDm E) ct D' ct') := by
  have hN := h.N
  refine CE_of (Nat.le_of_ble_eq_true rfl) ?_
  have p0 := PC_lk ha (ct' := ct) fun _ _ => rfl
  unfold g58
  by_cases hx : ∃ j, j < sr σ * sc σ ∧ x = nI j
  · obtain ⟨j, hj, rfl⟩ := hx
    have zx : zix (nI j) j 36 := zix_nI (by omega) (by decide)
    have h15 := (ha.2.1.1 j (by omega)).1
    refine b58_0 (e30y rfl (h.V ha.1) hj) (b58_8 (fun z => absurd z (by decide)) fun _ => ?_)
    by_cases hw : ∃ k, k < 8 ∧ w = nI k
    · obtain ⟨k, hk, rfl⟩ := hw
      rw [if_pos ⟨sIn_y hj (by omega), sIn_y hk (by decide)⟩, nI_clamp (by omega)]
      refine b58_11 (fun z => absurd z (nI_nlt (by omega) (by omega))) (fun _ => b58_15 (fun _ => ?_) (fun z => absurd ((zlt (by omega) (by omega)).2 hk) z))
      refine b58_23 zx (fun h1 => b58_38 (zQ_of ?_)) (fun h1 => ?_)
      · rw [h15] at h1
        rw [if_pos h1]
        exact ⟨rfl, p0⟩
      · rw [h15] at h1
        rw [if_neg h1, h15]
        obtain ⟨_, _, ct1, he, rfl, ⟨E', rfl, hE⟩, g1, g2⟩ := k57 (X := X) (d := d) h ha
        exact b58_41 he (b58_52 (e31 rfl (by omega)) (b58_62 (zQ_of ⟨rfl, PC_ch g1 hE (zTm_pl g1.2.1 (by omega)) g2 fun b hb => by rw [u2_n (by omega), u2_n (by omega)]⟩)))
    · rw [if_neg (fun z => absurd z.2 (by rw [sIn_n hw (by decide)]; decide))]
      refine b58_11 (fun z => b58_21 (zQ_of ⟨rfl, p0⟩)) (fun h1 => b58_15 (fun h2 => ?_) (fun z => b58_21 (zQ_of ⟨rfl, p0⟩)))
      rcases pk_ix w (n := 8) (by omega) with q | q | q
      · exact absurd q h1
      · exact absurd h2 (Int32.not_lt.mpr q)
      · exact absurd q hw
  · rw [if_neg (fun z => absurd z.1 (by rw [sIn_n hx (by omega)]; decide))]
    exact b58_0 (e30n rfl (h.V ha.1) hx) (b58_8 (fun _ => b58_21 (zQ_of ⟨rfl, p0⟩)) fun z => absurd rfl z)
def scut (s : Nat → Int32) : Nat → Int32 := fun k => if 36 ≤ k ∧ k < 72 then nI 0 else s k
def fgr (s : Nat → Int32) : Nat := zfor (fun x n => if s (36 + x) < nI 3 then n else n + 1) 36 0 0
def g59 (σ : zM) : Int32 × zM := (nI (fgr (σ 3)), sNow (sRem σ) (scut (σ 3)))
theorem e60 {s : Nat → Int32} (ha : zsh D a = (3, 0)) (hm : zTm ct a s) : CE X (d + 1) 60 [.ref a] D ct (fun v D' ct' => v = some (.int (nI (fgr s))) ∧ D = D' ∧ zTm ct' a (scut s) ∧ zO a ct ct') := by
  refine CE_of (Nat.le_of_ble_eq_true rfl) ?_
  refine b60_0 ha ?_
  refine z_loop0 36 (fun i ls ct1 => (∃ n, ls = [.ref a, .int (nI n), .int (nI i)] ∧ fgr s = zfor (fun x n => if s (36 + x) < nI 3 then n else n + 1) (36 - i) i n) ∧ (∀ b, b ≠ a + 2 → ct1 b = ct b) ∧ ∀ j, j < 36 → ct1 (a + 2) j = if j < i then nI 0 else s (36 + j)) ⟨⟨0, rfl, rfl⟩, fun _ _ => rfl, fun j hj => ?_⟩ ?_ ?_
  · rw [if_neg (by omega)]; exact (hm.1 j hj).2.1
  · rintro i _ ct1 hi ⟨⟨n, rfl, hf⟩, h1, h2⟩ ih
    rw [zfor_step hi] at hf
    refine b60_4 ha (fun z => ?_) (fun _ => ?_)
    · rw [zle (by omega) (by omega)] at z; omega
    have zx : zix (nI i) i 36 := zix_nI hi (by decide)
    have e1 : ct1 (a + 2) i = s (36 + i) := by rw [h2 i hi, if_neg (by omega)]
    have rest : (∀ b, b ≠ a + 2 → (u2 ct1 (a + 2) i (nI 0)) b = ct b) ∧ ∀ j, j < 36 → (u2 ct1 (a + 2) i (nI 0)) (a + 2) j = if j < i + 1 then nI 0 else s (36 + j) := by
      refine ⟨fun b hb => by rw [u2_n hb]; exact h1 b hb, fun j hj => ?_⟩
      rw [u2_a]
      by_cases q : j = i
      · rw [if_pos ⟨rfl, q⟩, if_pos (by omega)]
      · rw [if_neg (fun z => q z.2), h2 j hj]
        by_cases q2 : j < i
        · rw [if_pos q2, if_pos (by omega)]
        · rw [if_neg q2, if_neg (by omega)]
    refine b60_10 ha zx (fun h3 => b60_23 ha zx (ih _ _ ⟨⟨n, by rw [nI_add], ?_⟩, rest⟩)) (fun h3 => b60_20 ha zx (ih _ _ ⟨⟨n + 1, by rw [nI_add, nI_add], ?_⟩, rest⟩))
    · rw [e1] at h3
      rw [if_pos h3] at hf; exact hf
    · rw [e1] at h3
      rw [if_neg h3] at hf; exact hf
  · rintro _ ct1 ⟨⟨n, rfl, hf⟩, h1, h2⟩
    rw [zfor_end] at hf
    refine b60_4 ha (fun _ => ?_) (fun z => absurd ((zle (by omega) (by omega)).2 (Nat.le_refl 36)) z)
    refine b60_36 ha (zQ_of ⟨by rw [hf], rfl, ⟨fun j hj => ⟨?_, ?_, ?_⟩, ?_, ?_, ?_⟩, fun b hb => h1 b (by omega)⟩)
    · rw [h1 (a + 1) (by omega), (hm.1 j hj).1]; unfold scut; rw [if_neg (by omega)]
    · rw [h2 j hj, if_pos hj]; unfold scut; rw [if_pos (by omega)]
    · rw [h1 (a + 3) (by omega), (hm.1 j hj).2.2]; unfold scut; rw [if_neg (by omega)]
    · rw [h1 a (by omega), hm.2.1]; unfold scut; rw [if_neg (by omega)]
    · rw [h1 a (by omega), hm.2.2.1]; unfold scut; rw [if_neg (by omega)]
    · rw [h1 a (by omega), hm.2.2.2]; unfold scut; rw [if_neg (by omega)]
theorem k59 (h : WF σ) (ha : CA σ (zDm E) ct) : CE X (d + 3) 59 [.ref 0] (zDm E) ct (fun v D' ct' => v = some (.int (g59 σ).1) ∧ PC (g59 σ).2 (zDm E) ct D' ct') := by
  refine CE_of (Nat.le_of_ble_eq_true rfl) ?_
  obtain ⟨_, _, ct1, he, rfl, ⟨E', rfl, hE⟩, g1, g2⟩ := k57 (X := X) (d := d) h ha
  obtain ⟨_, _, ct2, he2, rfl, rfl, g3, g4⟩ := e60 (X := X) (D := zDm E') (ct := ct1) (d := d + 1) (a := 14) rfl g1.2.1
  exact b59_0 he (b59_11 he2 (b59_18 (zQ_of ⟨rfl, PC_ch g1 hE g3 g2 fun b hb => g4 b (by omega)⟩)))
def shu (j : Nat) (s : Nat → Int32) : Nat → Int32 := upd s (72 + j) (if s (72 + j) = nI 0 then nI 1 else nI 0)
theorem zTm_hu {ct : zM} {a j : Nat} {v : Int32} {s : Nat → Int32} (h : zTm ct a s) (hj : j < 36) : zTm (u2 ct (a + 3) j v) a (upd s (72 + j) v) := by
  refine ⟨fun i hi => ⟨?_, ?_, ?_⟩, ?_, ?_, ?_⟩
  · rw [u2_n (by omega), pk_un (by omega)]; exact (h.1 i hi).1
  · rw [u2_n (by omega), pk_un (by omega)]; exact (h.1 i hi).2.1
  · by_cases q : i = j
    · subst q; rw [u2_a, if_pos ⟨rfl, rfl⟩, pk_us]
    · rw [u2_a, if_neg (fun z => q z.2), pk_un (by omega)]; exact (h.1 i hi).2.2
  · rw [u2_n (by omega), pk_un (by omega)]; exact h.2.1
  · rw [u2_n (by omega), pk_un (by omega)]; exact h.2.2.1
  · rw [u2_n (by omega), pk_un (by omega)]; exact h.2.2.2
def g61 (σ : zM) (x : Int32) : Int32 × zM := if sIn (sr σ * sc σ) x = true then ((if σ 3 (72 + x.toNatClampNeg) = nI 0 then nI 1 else nI 0), sNow (sRem σ) (shu x.toNatClampNeg (σ 3))) else ((-1), σ)
theorem k61 {x : Int32} (h : WF σ) (ha : CA σ (zDm E) ct) : CE X (d + 3) 61 [.ref 0, .int x] (zDm E) ct (fun v D' ct' => v = some (.int (g61 σ x).1) ∧ PC (g61 σ x).2 (zDm E) ct D' ct') := by
  have hN := h.N
  refine CE_of (Nat.le_of_ble_eq_true rfl) ?_
  have p0 := PC_lk ha (ct' := ct) fun _ _ => rfl
  unfold g61
  by_cases hx : ∃ j, j < sr σ * sc σ ∧ x = nI j
  · obtain ⟨j, hj, rfl⟩ := hx
    rw [if_pos (sIn_y hj (by omega)), nI_clamp (by omega)]
    have zx : zix (nI j) j 36 := zix_nI (by omega) (by decide)
    obtain ⟨_, _, ct1, he, rfl, ⟨E', rfl, hE⟩, g1, g2⟩ := k57 (X := X) (d := d) h ha
    have e1 : ct1 17 j = σ 3 (72 + j) := (g1.2.1.1 j (by omega)).2.2
    refine b61_0 (e30y rfl (h.V ha.1) hj) (b61_8 (fun z => absurd z (by decide)) fun _ => ?_)
    refine b61_13 he ?_
    have fin : ∀ v : Int32, zb v → v = (if σ 3 (72 + j) = nI 0 then nI 1 else nI 0) → PC (sNow (sRem σ) (shu j (σ 3))) (zDm E) ct (zDm E') (u2 ct1 17 j v) := by
      intro v hv hv2
      refine PC_ch g1 hE ?_ g2 fun b hb => by rw [u2_n (by omega)]
      unfold shu
      rw [← hv2]
      exact zTm_hu (a := 14) g1.2.1 (by omega)
    refine b61_24 zx (fun h1 => ?_) (fun h1 => ?_)
    · rw [e1] at h1
      have e2 : (u2 ct1 17 j (nI 1)) 17 j = nI 1 := by rw [u2_a, if_pos ⟨rfl, rfl⟩]
      refine b61_44 (v1 := nI 1) zx zx (by rw [e2]; exact e55 (Or.inr rfl)) (b61_62 (zQ_of ⟨by rw [if_pos h1], fin _ (Or.inr rfl) (by rw [if_pos h1])⟩))
    · rw [e1] at h1
      have e2 : (u2 ct1 17 j (nI 0)) 17 j = nI 0 := by rw [u2_a, if_pos ⟨rfl, rfl⟩]
      refine b61_48 (v1 := nI 0) zx zx (by rw [e2]; exact e55 (Or.inl rfl)) (b61_62 (zQ_of ⟨by rw [if_neg h1], fin _ (Or.inl rfl) (by rw [if_neg h1])⟩))
  · rw [sIn_n hx (by omega)]
    exact b61_0 (e30n rfl (h.V ha.1) hx) (b61_8 (fun _ => b61_11 (zQ_of ⟨rfl, p0⟩)) fun z => absurd rfl z)
def g62 (σ : zM) (w : Int32) : Int32 × zM := if sIn 4 w = true then (σ 3 108, sNow (sRem σ) (swd w (σ 3))) else ((-1), σ)
theorem k62 {w : Int32} (h : WF σ) (ha : CA σ (zDm E) ct) : CE X (d + 3) 62 [.ref 0, .int w] (zDm E) ct (fun v D' ct' => v = some (.int (g62 σ w).1) ∧ PC (g62 σ w).2 (zDm E) ct D' ct') := by
  refine CE_of (Nat.le_of_ble_eq_true rfl) ?_
  have p0 := PC_lk ha (ct' := ct) fun _ _ => rfl
  unfold g62
  by_cases hx : ∃ j, j < 4 ∧ w = nI j
  · obtain ⟨j, hj, rfl⟩ := hx
    rw [if_pos (sIn_y hj (by omega))]
    refine b62_0 (fun z => absurd z (nI_nlt (by omega) (by omega))) (fun _ => b62_4 (fun _ => ?_) (fun z => absurd ((zlt (by omega) (by omega)).2 hj) z))
    obtain ⟨_, _, ct1, he, rfl, ⟨E', rfl, hE⟩, g1, g2⟩ := k57 (X := X) (d := d) h ha
    refine b62_11 he (b62_22 (zQ_of ⟨?_, PC_ch g1 hE (zTm_wd (a := 14) g1.2.1) g2 fun b hb => by rw [u2_n (by omega)]⟩))
    rw [g1.2.1.2.1]; rfl
  · rw [sIn_n hx (by omega)]
    refine b62_0 (fun z => b62_9 (zQ_of ⟨rfl, p0⟩)) (fun h1 => b62_4 (fun h2 => ?_) (fun z => b62_9 (zQ_of ⟨rfl, p0⟩)))
    rcases pk_ix w (n := 4) (by omega) with q | q | q
    · exact absurd q h1
    · exact absurd h2 (Int32.not_lt.mpr q)
    · exact absurd q hx
def g63 (σ : zM) (x : Int32) : Int32 × zM := if sIn (sr σ * sc σ) x = true then (σ 3 109, sNow (sRem σ) (sey x (σ 3))) else ((-1), σ)
theorem k63 {x : Int32} (h : WF σ) (ha : CA σ (zDm E) ct) : CE X (d + 3) 63 [.ref 0, .int x] (zDm E) ct (fun v D' ct' => v = some (.int (g63 σ x).1) ∧ PC (g63 σ x).2 (zDm E) ct D' ct') := by
  have hN := h.N
  refine CE_of (Nat.le_of_ble_eq_true rfl) ?_
  have p0 := PC_lk ha (ct' := ct) fun _ _ => rfl
  unfold g63
  by_cases hx : ∃ j, j < sr σ * sc σ ∧ x = nI j
  · obtain ⟨j, hj, rfl⟩ := hx
    rw [if_pos (sIn_y hj (by omega))]
    refine b63_0 (e30y rfl (h.V ha.1) hj) (b63_8 (fun z => absurd z (by decide)) fun _ => ?_)
    obtain ⟨_, _, ct1, he, rfl, ⟨E', rfl, hE⟩, g1, g2⟩ := k57 (X := X) (d := d) h ha
    refine b63_13 he (b63_24 (zQ_of ⟨?_, PC_ch g1 hE (zTm_ey (a := 14) g1.2.1) g2 fun b hb => by rw [u2_n (by omega)]⟩))
    rw [g1.2.1.2.2.1]; rfl
  · rw [sIn_n hx (by omega)]
    exact b63_0 (e30n rfl (h.V ha.1) hx) (b63_8 (fun _ => b63_11 (zQ_of ⟨rfl, p0⟩)) fun z => absurd rfl z)
def g64 (σ : zM) (n : Int32) : Int32 × zM := if nI 1 ≤ n ∧ n ≤ nI 20 then (sgo n (σ 3) 110, sNow (sRem σ) (sgo n (σ 3))) else ((-1), σ)
theorem k64 {n : Int32} (h : WF σ) (ha : CA σ (zDm E) ct) : CE X (d + 3) 64 [.ref 0, .int n] (zDm E) ct (fun v D' ct' => v = some (.int (g64 σ n).1) ∧ PC (g64 σ n).2 (zDm E) ct D' ct') := by
  refine CE_of (Nat.le_of_ble_eq_true rfl) ?_
  have p0 := PC_lk ha (ct' := ct) fun _ _ => rfl
  unfold g64
  refine b64_0 (fun h1 => b64_11 (zQ_of ?_)) (fun h1 => ?_)
  · rw [if_neg (fun z => Int32.not_le.mpr h1 z.1)]
    exact ⟨rfl, p0⟩
  refine b64_5 (fun h2 => ?_) (fun h2 => b64_11 (zQ_of ?_))
  · rw [if_pos ⟨Int32.not_lt.mp h1, h2⟩]
    obtain ⟨_, _, ct1, he, rfl, ⟨E', rfl, hE⟩, g1, g2⟩ := k57 (X := X) (d := d) h ha
    obtain ⟨_, _, ct2, he2, rfl, rfl, g3, g4⟩ := e65 (X := X) (D := zDm E') (ct := ct1) (d := d + 1) (a := 14) (n := n) rfl g1.2.1
    refine b64_13 he (b64_24 he2 (b64_32 (zQ_of ⟨?_, PC_ch g1 hE g3 g2 fun b hb => g4 b (by omega)⟩)))
    rw [g3.2.2.2]; rfl
  · rw [if_neg (fun z => h2 z.2)]
    exact ⟨rfl, p0⟩
end
