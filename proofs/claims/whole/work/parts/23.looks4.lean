/-! The class's calls: copy, never, year. -/
/-- a thing put -/
def spl (j : Nat) (k old : Int32) (s : Nat → Int32) : Nat → Int32 := fun i => if i = j then k else if i = 36 + j then old else s i
theorem spl_n {j i : Nat} {k old : Int32} {s : Nat → Int32} (h1 : i ≠ j) (h2 : i ≠ 36 + j) : spl j k old s i = s i := by
  unfold spl
  rw [if_neg h1, if_neg h2]
theorem spl_j {j : Nat} {k old : Int32} {s : Nat → Int32} : spl j k old s j = k := if_pos rfl
theorem spl_a {j : Nat} {k old : Int32} {s : Nat → Int32} : spl j k old s (36 + j) = old := by
  unfold spl
  rw [if_neg (by omega), if_pos rfl]
theorem spl_ok {N j : Nat} {k old : Int32} {s : Nat → Int32} (h : zOk N s) (hj : j < 36) (hk : zk k) : zOk N (spl j k old s) := by
  refine ⟨fun i hi => ⟨?_, ?_⟩, ?_⟩
  · by_cases h1 : i = j
    · rw [h1, spl_j]; exact hk
    · rw [spl_n h1 (by omega)]; exact (h.1 i hi).1
  · rw [spl_n (by omega) (by omega)]; exact (h.1 i hi).2
  · rw [spl_n (by omega) (by omega)]; exact h.2
theorem zTm_pl {ct : zM} {a j : Nat} {k old : Int32} {s : Nat → Int32} (h : zTm ct a s) (hj : j < 36) : zTm (u2 (u2 ct (a + 1) j k) (a + 2) j old) a (spl j k old s) := by
  refine ⟨fun i hi => ⟨?_, ?_, ?_⟩, ?_, ?_, ?_⟩
  · rw [u2_n (by omega), u2_r]
    by_cases h1 : i = j
    · rw [h1, pk_us, spl_j]
    · rw [pk_un h1, spl_n h1 (by omega)]; exact (h.1 i hi).1
  · rw [u2_r, u2_n (by omega)]
    by_cases h1 : i = j
    · rw [h1, pk_us, spl_a]
    · rw [pk_un h1, spl_n (by omega) (by omega)]; exact (h.1 i hi).2.1
  · rw [u2_n (by omega), u2_n (by omega), spl_n (by omega) (by omega)]; exact (h.1 i hi).2.2
  · rw [u2_n (by omega), u2_n (by omega), spl_n (by omega) (by omega)]; exact h.2.1
  · rw [u2_n (by omega), u2_n (by omega), spl_n (by omega) (by omega)]; exact h.2.2.1
  · rw [u2_n (by omega), u2_n (by omega), spl_n (by omega) (by omega)]; exact h.2.2.2
/-- as it should be, up to a cell -/
def snv (σ : zM) (n : Nat) (s : Nat → Int32) : Nat → Int32 := fun k => if k < n then σ 1 k else if 36 ≤ k ∧ k - 36 < n ∧ ¬ s (k - 36) = σ 1 (k - 36) then nI 0 else s k
def f82 (σ : zM) (w : Int32) : Int32 := if nI 0 ≤ w ∧ w < σ 0 0 then zfor (fun x b => if sp σ (snv σ (sr σ * sc σ) (σ 3)) (w.toNatClampNeg * sc σ + x) = 0 then b else b ||| (nI 1 <<< (nI x &&& 31))) (sc σ) 0 (nI 0) else (-1)
def sdr (z k : Nat) : Nat := (7919 * z + 6151 * k + 1) * (7919 * z + 6151 * k + 1) % 65521 / 2
def slv (N n : Nat) (s : Nat → Int32) : Nat → Int32 := swd (nI (n / 64 % 4)) (sgo (nI 1) (if s (n % N) = nI (n / 8 % 8) then s else spl (n % N) (nI (n / 8 % 8)) (nI 0) s))
def fyr (σ : zM) (z n : Nat) : Int32 × Int32 × (Nat → Int32) := zfor (fun k p => (if σ 0 2 < nI (sfine σ (slv (sr σ * sc σ) (sdr z k) p.2.2)) then p.1 else p.1 + nI 1, p.2.1 + nI (sfine σ (slv (sr σ * sc σ) (sdr z k) p.2.2)), slv (sr σ * sc σ) (sdr z k) p.2.2)) n 0 (nI 0, nI 0, σ 3)
def f95 (σ : zM) (z n w : Int32) : Int32 := if (nI 0 ≤ z ∧ z ≤ nI 9999) ∧ (nI 1 ≤ n ∧ n ≤ nI 40) ∧ (w = nI 0 ∨ w = nI 1) then (if w = nI 0 then (fyr σ z.toNatClampNeg n.toNatClampNeg).1 else (fyr σ z.toNatClampNeg n.toNatClampNeg).2.1) else (-1)
theorem sdr_lt (z k : Nat) : sdr z k < 32761 := by
  unfold sdr
  have : (7919 * z + 6151 * k + 1) * (7919 * z + 6151 * k + 1) % 65521 < 65521 := Nat.mod_lt _ (by decide)
  omega
theorem slv_ok {N n : Nat} {s : Nat → Int32} (h : zOk N s) (hN : N ≤ 36) (hn : 0 < N) : zOk N (slv N n s) := by
  unfold slv
  refine swd_ok (sgo_ok ?_)
  split
  · exact h
  · exact spl_ok h (Nat.lt_of_lt_of_le (Nat.mod_lt _ hn) hN) ⟨n / 8 % 8, Nat.mod_lt _ (by decide), rfl⟩
section
variable {X : Nat × (Nat → Int32)} {D : zD} {ct σ : zM} {d a : Nat}
theorem WW.sh {σ : zM} (h : WW σ) {j : Nat} {v : Int32} : WW (u2 σ 1 j v) := by
  have e : ∀ b, b ≠ 1 → u2 σ 1 j v b = σ b := fun b hb => u2_n hb
  unfold WW su sk sf at *
  rw [e 0 (by decide), e 3 (by decide), e 5 (by decide)]
  refine ⟨h.1, fun i hi => ?_, fun i hi => ?_, h.2.2.2⟩
  · rw [e (10 + i) (by omega)]; exact h.2.1 i hi
  · rw [e (20 + i) (by omega)]; exact h.2.2.1 i hi
theorem WF.sh {σ : zM} (h : WF σ) {j k : Nat} (hk : k < 8) : WF (u2 σ 1 j (nI k)) := by
  have e : ∀ b, b ≠ 1 → u2 σ 1 j (nI k) b = σ b := fun b hb => u2_n hb
  have hw := h.ww.sh (j := j) (v := nI k)
  unfold WF sr sc su sk sf sn at *
  rw [e 0 (by decide), e 2 (by decide), e 3 (by decide), e 4 (by decide)]
  obtain ⟨a1, a2, a3, a4, a5, a6, a7, a8, a9, a10, a11, a12, a13⟩ := h
  refine ⟨a1, a2, a3, a4, a5, a6, a7, fun i hi => ?_, a9, a10, fun i hi => ?_, fun i hi => ?_, a13.1, hw⟩
  · rw [u2_a]
    by_cases hij : i = j
    · rw [if_pos ⟨rfl, hij⟩]; exact ⟨k, hk, rfl⟩
    · rw [if_neg (fun z => hij z.2)]; exact a8 i hi
  · rw [e (10 + i) (by omega)]; exact a11 i hi
  · rw [e (20 + i) (by omega)]; exact a12 i hi
theorem k90 {x : Int32} (h : WF σ) (ha : CA σ D ct) : CE X (d + 7) 90 [.ref 0, .int x] D ct (fun v D' ct' => v = some (.int (f90 σ x)) ∧ PC σ D ct D' ct') := by
  have hk := h.2.2.2.2.2.2.2.2.2.1
  have hN := h.N
  refine CE_of (Nat.le_of_ble_eq_true rfl) ?_
  have p0 := PC_lk ha (ct' := ct) fun _ _ => rfl
  by_cases hx : ∃ j, j < sr σ * sc σ ∧ x = nI j
  · obtain ⟨j, hj, rfl⟩ := hx
    have zx : zix (nI j) j 36 := zix_nI (by omega) (by decide)
    refine b90_0 (e30y rfl (h.V ha.1) hj) (b90_8 (fun z => absurd z (by decide)) fun _ => ?_)
    obtain ⟨_, _, ct1, he, rfl, rfl, g1, g2⟩ := f42 (X := X) (D := D) (ct := ct) (d := d + 4) h ha.2.1
    refine b90_13 he (b90_17 zx ?_)
    have e12 : ct1 12 j = ct 12 j := by rw [g2 12 (by omega)]
    rw [e12]
    unfold f90
    rw [if_pos (sIn_y hj (by omega)), nI_clamp (by omega)]
    refine z_loop0 8 (fun k ls ct2 => ∃ b, ls = [.ref 0, .int (nI j), .int (ct 12 j), .int b, .int (nI k)] ∧ (∀ b, ¬ (22 ≤ b ∧ b ≤ 27) → b ≠ 12 → ct2 b = ct b) ∧ (∀ i, i ≠ j → ct2 12 i = ct 12 i) ∧ (∃ w, zTm ct2 22 (swd w (σ 3))) ∧ fcp σ j = zfor (fun k b => if sso (u2 σ 1 j (nI k)) (σ 3) = true then b ||| (nI 1 <<< (nI k &&& 31)) else b) (8 - k) k b) ⟨nI 0, rfl, fun b hb _ => g2 b (by omega), fun i _ => by rw [g2 12 (by omega)], ⟨σ 3 108, by rw [swd_self]; exact g1⟩, rfl⟩ ?_ ?_
    · rintro k _ ct2 hk8 ⟨b, rfl, l1, l12, ⟨w, hw⟩, hf⟩ ih
      rw [zfor_step hk8] at hf
      refine b90_32 (fun z => ?_) (fun _ => ?_)
      · rw [zle (by omega) (by omega)] at z; omega
      have hσ := h.sh (j := j) hk8
      have e0 : ∀ b, b ≠ 1 → u2 σ 1 j (nI k) b = σ b := fun b hb => u2_n hb
      have hp2 : CP (u2 σ 1 j (nI k)) (u2 ct2 12 j (nI k)) := by
        obtain ⟨p1, p2, p3, p4, p5⟩ := ha.1
        unfold CP
        rw [e0 0 (by decide), e0 2 (by decide), u2_n (show (11 : Nat) ≠ 12 by decide), u2_n (show (13 : Nat) ≠ 12 by decide), l1 11 (by omega) (by decide), l1 13 (by omega) (by decide)]
        refine ⟨p1, p2, p3, fun i hi => ?_, p5⟩
        rw [u2_r, u2_r]
        by_cases hij : i = j
        · rw [hij, pk_us, pk_us]
        · rw [pk_un hij, pk_un hij, l12 i hij]; exact p4 i hi
      have hf2 : CF (u2 σ 1 j (nI k)) (u2 ct2 12 j (nI k)) := by
        have q := ha.2.2.2.2.2.1
        unfold CF sf at *
        rw [e0 0 (by decide), e0 5 (by decide), u2_n (by decide), u2_n (by decide), u2_n (by decide), l1 0 (by omega) (by decide), l1 31 (by omega) (by decide), l1 32 (by omega) (by decide)]
        exact q
      have hk2 : zOk (sr (u2 σ 1 j (nI k)) * sc (u2 σ 1 j (nI k))) (swd w (σ 3)) := swd_ok hk
      obtain ⟨_, _, ct3, he3, rfl, rfl, g3, w2, g4⟩ := f88 (X := X) (D := D) (ct := u2 ct2 12 j (nI k)) (σ := u2 σ 1 j (nI k)) (d := d) hσ hp2 hf2 (hw.keep fun b q1 q2 => u2_n (by omega)) hk2
      rw [sso_wd] at he3
      rw [swd_swd] at g4
      have m1 : ∀ b, ¬ (22 ≤ b ∧ b ≤ 27) → b ≠ 12 → ct3 b = ct b := fun b q1 q2 => by rw [g3 b q1, u2_n q2]; exact l1 b q1 q2
      have m2 : ∀ i, i ≠ j → ct3 12 i = ct 12 i := fun i q1 => by rw [g3 12 (by omega), u2_r, pk_un q1]; exact l12 i q1
      refine b90_39 zx he3 (b90_54 (fun h5 => b90_64 (ih _ _ ⟨b, by rw [nI_add], m1, m2, ⟨w2, g4⟩, ?_⟩)) (fun h5 => b90_57 (ih _ _ ⟨_, by rw [nI_add], m1, m2, ⟨w2, g4⟩, ?_⟩)))
      · have : ¬ sso (u2 σ 1 j (nI k)) (σ 3) = true := fun z => by rw [if_pos z] at h5; exact absurd h5 (by decide)
        rw [if_neg this] at hf; exact hf
      · have : sso (u2 σ 1 j (nI k)) (σ 3) = true := by
          by_cases z : sso (u2 σ 1 j (nI k)) (σ 3) = true
          · exact z
          · rw [if_neg z] at h5; exact absurd rfl h5
        rw [if_pos this] at hf; exact hf
    · rintro _ ct2 ⟨b, rfl, l1, l12, -, hf⟩
      rw [zfor_end] at hf
      refine b90_32 (fun _ => b90_70 zx (zQ_of ⟨by rw [hf], PC_lk ha fun b' hb => ?_⟩)) (fun z => absurd (by decide) z)
      by_cases hb12 : b' = 12
      · subst hb12
        funext i
        rw [u2_a]
        by_cases hij : i = j
        · rw [if_pos ⟨rfl, hij⟩, hij]
        · rw [if_neg (fun z => hij z.2)]; exact l12 i hij
      · rw [u2_n hb12]; exact l1 b' hb hb12
  · refine b90_0 (e30n rfl (h.V ha.1) hx) (b90_8 (fun _ => b90_11 (zQ_of ⟨?_, p0⟩)) fun z => absurd rfl z)
    unfold f90
    rw [sIn_n hx (by omega)]
    rfl
theorem snv_ok {n : Nat} {s : Nat → Int32} (h : WF σ) (hs : zOk (sr σ * sc σ) s) (hn : n ≤ 36) : zOk (sr σ * sc σ) (snv σ n s) := by
  unfold snv
  refine ⟨fun i hi => ⟨?_, ?_⟩, ?_⟩
  · by_cases h1 : i < n
    · simp only [if_pos h1]; exact h.2.2.2.2.2.2.2.1 i hi
    · simp only [if_neg h1, if_neg (show ¬ (36 ≤ i ∧ i - 36 < n ∧ ¬ s (i - 36) = σ 1 (i - 36)) by omega)]; exact (hs.1 i hi).1
  · simp only [if_neg (show ¬ 72 + i < n by omega), if_neg (show ¬ (36 ≤ 72 + i ∧ 72 + i - 36 < n ∧ ¬ s (72 + i - 36) = σ 1 (72 + i - 36)) by omega)]; exact (hs.1 i hi).2
  · simp only [if_neg (show ¬ 109 < n by omega), if_neg (show ¬ (36 ≤ 109 ∧ 109 - 36 < n ∧ ¬ s (109 - 36) = σ 1 (109 - 36)) by omega)]; exact hs.2
theorem k82 {w : Int32} (h : WF σ) (ha : CA σ D ct) : CE X (d + 6) 82 [.ref 0, .int w] D ct (fun v D' ct' => v = some (.int (f82 σ w)) ∧ PC σ D ct D' ct') := by
  have hk := h.2.2.2.2.2.2.2.2.2.1
  have hN := h.N
  have hc := h.2.1.2
  have hr := h.1.2
  refine CE_of (Nat.le_of_ble_eq_true rfl) ?_
  have p0 := PC_lk ha (ct' := ct) fun _ _ => rfl
  unfold f82
  refine b82_0 (fun h1 => b82_15 (zQ_of ⟨by rw [if_neg (fun z => Int32.not_le.mpr h1 z.1)], p0⟩)) (fun h1 => ?_)
  refine b82_4 (fun h2 => ?_) (fun h2 => b82_15 (zQ_of ⟨by rw [if_neg (fun z => h2 (by rw [ha.1.1]; exact z.2))], p0⟩))
  rw [ha.1.1, h.1.1] at h2
  obtain ⟨y, hy, rfl⟩ : ∃ y, y < sr σ ∧ w = nI y := by
    rcases pk_ix w (n := sr σ) (by omega) with q | q | q
    · exact absurd q h1
    · exact absurd h2 (Int32.not_lt.mpr q)
    · exact q
  rw [if_pos ⟨Int32.not_lt.mp h1, by rw [h.1.1]; exact h2⟩, nI_clamp (by omega)]
  obtain ⟨_, _, ct1, he, rfl, rfl, g1, g2⟩ := f42 (X := X) (D := D) (ct := ct) (d := d + 3) h ha.2.1
  have l1 : zLk ct ct1 := fun b hb => g2 b (by omega)
  refine b82_17 he (b82_21 (e36 rfl (h.V (ha.1.lk l1))) (b82_28 ?_))
  refine z_loop0 (sr σ * sc σ) (fun i ls ct2 => (∃ l4, ls = [.ref 0, .int (nI y), .int (nI (sr σ * sc σ)), .int (nI i), l4] ∧ xnl (some l4)) ∧ zLk ct ct2 ∧ zTm ct2 22 (snv σ i (σ 3))) ⟨⟨_, rfl, trivial⟩, l1, ?_⟩ ?_ ?_
  · have : snv σ 0 (σ 3) = σ 3 := by
      funext k; unfold snv
      rw [if_neg (Nat.not_lt_zero _), if_neg (fun z => Nat.not_lt_zero _ z.2.1)]
    rw [this]; exact g1
  · rintro i _ ct2 hi ⟨⟨l4, rfl, h4⟩, l2, hm⟩ ih
    refine b82_31 (fun z => ?_) (fun _ => b82_36 (fun z => ?_) (fun _ => ?_))
    · rw [zle (by omega) (by omega)] at z; omega
    · rw [zle (by omega) (by omega)] at z; omega
    have e1 : ct2 23 i = σ 3 i := by
      rw [(hm.1 i (by omega)).1]; unfold snv
      rw [if_neg (by omega), if_neg (by omega)]
    have e2 : ct2 12 i = σ 1 i := (ha.1.lk l2).2.2.2.1 i (by omega)
    rw [show (snv σ i (σ 3)) = snv σ i (σ 3) from rfl] at hm
    refine b82_42 (zix_nI (by omega) (by decide)) (zix_nI (by omega) (by decide)) (fun h5 => ?_) (fun h5 => ?_)
    · rw [e1, e2] at h5
      refine b82_78 (ih _ _ ⟨⟨.int (ct2 12 i), by rw [nI_add], trivial⟩, l2, ?_⟩)
      have : snv σ (i + 1) (σ 3) = snv σ i (σ 3) := by
        funext k; unfold snv
        by_cases q1 : k < i
        · rw [if_pos (by omega), if_pos q1]
        · by_cases q2 : k = i
          · rw [if_pos (by omega), if_neg q1, if_neg (by omega), q2]; exact h5.symm
          · rw [if_neg (by omega), if_neg q1]
            by_cases q3 : k = 36 + i
            · subst q3
              rw [show 36 + i - 36 = i by omega, if_neg (fun z => z.2.2 h5), if_neg (fun z => by omega)]
            · have : (36 ≤ k ∧ k - 36 < i + 1 ∧ ¬ σ 3 (k - 36) = σ 1 (k - 36)) ↔ (36 ≤ k ∧ k - 36 < i ∧ ¬ σ 3 (k - 36) = σ 1 (k - 36)) := by
                constructor
                · rintro ⟨z1, z2, z3⟩; exact ⟨z1, by omega, z3⟩
                · rintro ⟨z1, z2, z3⟩; exact ⟨z1, by omega, z3⟩
              simp only [this]
      rw [this]; exact hm
    · rw [e1, e2] at h5
      rw [e2]
      refine b82_67 (e31 rfl (by omega)) (b82_78 (ih _ _ ⟨⟨.int (σ 1 i), by rw [nI_add], trivial⟩, fun b hb => by rw [u2_n (by omega), u2_n (by omega)]; exact l2 b hb, ?_⟩))
      have : snv σ (i + 1) (σ 3) = spl i (σ 1 i) (nI 0) (snv σ i (σ 3)) := by
        funext k; unfold snv spl; dsimp only
        by_cases q2 : k = i
        · rw [if_pos (by omega), if_pos q2, q2]
        · rw [if_neg q2]
          by_cases q3 : k = 36 + i
          · subst q3
            rw [if_pos rfl, if_neg (by omega), show 36 + i - 36 = i by omega, if_pos ⟨by omega, by omega, h5⟩]
          · rw [if_neg q3]
            by_cases q1 : k < i
            · rw [if_pos (by omega), if_pos q1]
            · rw [if_neg (by omega), if_neg q1]
              have : (36 ≤ k ∧ k - 36 < i + 1 ∧ ¬ σ 3 (k - 36) = σ 1 (k - 36)) ↔ (36 ≤ k ∧ k - 36 < i ∧ ¬ σ 3 (k - 36) = σ 1 (k - 36)) := by
                constructor
                · rintro ⟨z1, z2, z3⟩; exact ⟨z1, by omega, z3⟩
                · rintro ⟨z1, z2, z3⟩; exact ⟨z1, by omega, z3⟩
              simp only [this]
      rw [this]; exact zTm_pl hm (by omega)
  · rintro _ ct2 ⟨⟨l4, rfl, h4⟩, l2, hm⟩
    refine b82_31 (fun _ => ?_) (fun z => absurd ((zle (by omega) (by omega)).2 (Nat.le_refl _)) z)
    have hp2 := ha.1.lk l2
    have hks := snv_ok (n := sr σ * sc σ) h hk hN
    obtain ⟨t1, t2⟩ := zTr_of h hp2 hm hks
    refine b82_84 ?_
    refine z_loop0 (sc σ) (fun i ls ct3 => ct2 = ct3 ∧ ∃ b, ls = [.ref 0, .int (nI y), .int (nI (sr σ * sc σ)), .int b, .int (nI i)] ∧ zfor (fun x b => if sp σ (snv σ (sr σ * sc σ) (σ 3)) (y * sc σ + x) = 0 then b else b ||| (nI 1 <<< (nI x &&& 31))) (sc σ) 0 (nI 0) = zfor (fun x b => if sp σ (snv σ (sr σ * sc σ) (σ 3)) (y * sc σ + x) = 0 then b else b ||| (nI 1 <<< (nI x &&& 31))) (sc σ - i) i b) ⟨rfl, nI 0, rfl, rfl⟩ ?_ ?_
    · rintro i _ _ hi ⟨rfl, b, rfl, hf⟩ ih
      rw [zfor_step hi] at hf
      have e1 : ct2 11 1 = nI (sc σ) := hp2.2.1.trans h.2.1.1
      refine b82_89 (fun z => ?_) (fun _ => ?_)
      · rw [e1, zle (by omega) (by omega)] at z; omega
      have hlt : y * sc σ + i < sr σ * sc σ := by
        have := Nat.mul_le_mul_right (sc σ) (show y + 1 ≤ sr σ from hy)
        rw [Nat.succ_mul] at this
        omega
      refine b82_101 (v1 := nI (zft ct2 (sr σ) (sc σ) (snv σ (sr σ * sc σ) (σ 3) 109).toNatClampNeg (y * sc σ + i))) (D1 := D) (ct1 := ct2) ?_ ?_
      · rw [e1, pk_mul, nI_add]
        exact e45 t1.1 hlt t1.2.1 (t1.2.2.1 _ hlt) (t1.2.2.2 _ hlt)
      · rw [t2 _ hlt]
        have hle := sp_le (σ := σ) (s := snv σ (sr σ * sc σ) (σ 3)) (j := y * sc σ + i)
        refine b82_120 (fun h5 => b82_130 (ih _ _ ⟨rfl, b, by rw [nI_add], ?_⟩)) (fun h5 => b82_123 (ih _ _ ⟨rfl, _, by rw [nI_add], ?_⟩))
        · rw [zle (by omega) (by omega)] at h5
          rw [if_pos (by omega)] at hf; exact hf
        · rw [zle (by omega) (by omega)] at h5
          rw [if_neg (by omega)] at hf; exact hf
    · rintro _ _ ⟨rfl, b, rfl, hf⟩
      rw [zfor_end] at hf
      have e1 : ct2 11 1 = nI (sc σ) := hp2.2.1.trans h.2.1.1
      exact b82_89 (fun _ => b82_136 (zQ_of ⟨by rw [hf], PC_lk ha l2⟩)) (fun z => absurd (by rw [e1]; exact (zle (by omega) (by omega)).2 (Nat.le_refl _)) z)
theorem e96 {z k : Nat} (hz : z ≤ 9999) (hk : k ≤ 40) : EV X (d + 1) 96 [.int (nI z), .int (nI k)] (mk D ct) (some (.int (nI (sdr z k)))) (mk D ct) := by
  refine EV_intro (Nat.le_of_ble_eq_true rfl) (b96_0 ⟨?_, rfl⟩)
  have hx : 7919 * z + 6151 * k + 1 ≤ 79500000 := by omega
  have hx2 := Nat.mul_le_mul hx hx
  have hm := sdr_lt z k
  rw [nI_l (by omega), nI_l (by omega), lN_mul, lN_mul, lN_add, lN_add, lN_mul, pk_lRem (by omega) (by decide) (by decide), pk_lDiv (by omega) (by decide) (by decide), lN_i]
  rfl
/-- a year goes by in the town that the judge looks at -/
theorem e97 {n : Nat} {s : Nat → Int32} (h : WF σ) (hp : CP σ ct) (hm : zTm ct 22 s) (hn : n < 40000) : CE X (d + 2) 97 [.ref 0, .int (nI n)] D ct (fun v D' ct' => v = none ∧ D = D' ∧ zTm ct' 22 (slv (sr σ * sc σ) n s) ∧ zLk ct ct') := by
  have hN := h.N
  have hN1 := h.N1
  refine CE_of (Nat.le_of_ble_eq_true rfl) ?_
  refine b97_0 (e36 rfl (h.V hp)) (b97_7 (fun _ => ?_) (fun z => absurd ((zle (by omega) (by omega)).2 (by omega)) z))
  have m1 : n % (sr σ * sc σ) < sr σ * sc σ := Nat.mod_lt _ (by omega)
  have m2 : n / 8 % 8 < 8 := Nat.mod_lt _ (by decide)
  have e1 : nI n - nI n / nI (sr σ * sc σ) * nI (sr σ * sc σ) = nI (n % (sr σ * sc σ)) := pk_rem (by omega) (by omega) (by omega)
  have e2 : nI n / nI 8 - nI n / nI 8 / nI 8 * nI 8 = nI (n / 8 % 8) := by rw [pk_div (by omega) (by decide) (by decide), pk_rem (by omega) (by decide) (by decide)]
  have e3 : nI n / nI 64 - nI n / nI 64 / nI 4 * nI 4 = nI (n / 64 % 4) := by rw [pk_div (by omega) (by decide) (by decide), pk_rem (by omega) (by decide) (by decide)]
  have last : ∀ (ct2 : zM) (s2 : Nat → Int32), zTm ct2 22 s2 → zLk ct ct2 → slv (sr σ * sc σ) n s = swd (nI (n / 64 % 4)) (sgo (nI 1) s2) → RUN X (EV X (d + 1)) 97 (zQ fun v D' ct' => v = none ∧ D = D' ∧ zTm ct' 22 (slv (sr σ * sc σ) n s) ∧ zLk ct ct') 63 [.ref 0, .int (nI n), .int (nI (sr σ * sc σ)), .int (nI (n % (sr σ * sc σ))), .int (nI (n / 8 % 8))] [] (mk D ct2) := by
    intro ct2 s2 q1 q2 q3
    obtain ⟨_, _, ct3, he3, rfl, rfl, g1, g2⟩ := e65 (X := X) (D := D) (ct := ct2) (d := d) (n := nI 1) rfl q1
    refine b97_63 he3 (b97_71 (zQ_of ⟨rfl, rfl, ?_, fun b hb => ?_⟩))
    · rw [e3, q3]; exact zTm_wd g1
    · rw [u2_n (by omega), g2 b (by omega)]; exact q2 b hb
  refine b97_14 (v1 := nI 1) (D1 := D) (ct1 := ct) (nI_ne0 (by omega) (by omega)) ?_ ?_
  · rw [e1]; exact e30y rfl (h.V hp) m1
  · rw [e1, e2]
    refine b97_35 (fun z => absurd z (by decide)) (fun _ => ?_)
    have e4 : ct 23 (n % (sr σ * sc σ)) = s (n % (sr σ * sc σ)) := (hm.1 _ (by omega)).1
    refine b97_38 (zix_nI (by omega) (by decide)) (fun h5 => last ct s hm (fun _ _ => rfl) ?_) (fun h5 => b97_52 (e31 rfl (by omega)) (last _ _ (zTm_pl hm (by omega)) (fun b hb => by rw [u2_n (by omega), u2_n (by omega)]) ?_))
    · rw [e4] at h5
      unfold slv; rw [if_pos h5]
    · rw [e4] at h5
      unfold slv; rw [if_neg h5]
theorem k95 {z n w : Int32} (h : WF σ) (ha : CA σ D ct) : CE X (d + 7) 95 [.ref 0, .int z, .int n, .int w] D ct (fun v D' ct' => v = some (.int (f95 σ z n w)) ∧ PC σ D ct D' ct') := by
  have hk := h.2.2.2.2.2.2.2.2.2.1
  have hN := h.N
  have hN1 := h.N1
  refine CE_of (Nat.le_of_ble_eq_true rfl) ?_
  have p0 := PC_lk ha (ct' := ct) fun _ _ => rfl
  have bad : ∀ {P : Prop} [Decidable P] {a : Int32}, ¬ P → some (Value.int (-1)) = some (Value.int (if P then a else (-1))) := fun hp => by rw [if_neg hp]
  refine b95_0 (fun h1 => b95_31 (zQ_of ⟨bad (fun q => Int32.not_le.mpr h1 q.1.1), p0⟩)) (fun h1 => ?_)
  refine b95_4 (fun h2 => b95_31 (zQ_of ⟨bad (fun q => Int32.not_le.mpr h2 q.1.2), p0⟩)) (fun h2 => ?_)
  refine b95_11 (fun h3 => b95_31 (zQ_of ⟨bad (fun q => Int32.not_le.mpr h3 q.2.1.1), p0⟩)) (fun h3 => ?_)
  refine b95_16 (fun h4 => b95_31 (zQ_of ⟨bad (fun q => Int32.not_le.mpr h4 q.2.1.2), p0⟩)) (fun h4 => ?_)
  refine b95_22 (fun h5 => b95_31 (zQ_of ⟨bad (fun q => by rcases q.2.2 with rfl | rfl <;> exact absurd h5 (by decide)), p0⟩)) (fun h5 => ?_)
  refine b95_26 (fun h6 => ?_) (fun h6 => b95_31 (zQ_of ⟨bad (fun q => by rcases q.2.2 with rfl | rfl <;> exact absurd (by decide) h6), p0⟩))
  obtain ⟨i, hi, rfl⟩ := z_in (by decide) h5 h6
  obtain ⟨y, hy, rfl⟩ := z_in (by decide) h1 (Int32.not_lt.mp h2)
  have h3' : ¬ n < nI 0 := fun q => h3 (Int32.lt_of_lt_of_le q (by decide))
  obtain ⟨m, hm, rfl⟩ := z_in (by decide) h3' (Int32.not_lt.mp h4)
  have hc : (nI 0 ≤ nI y ∧ nI y ≤ nI 9999) ∧ (nI 1 ≤ nI m ∧ nI m ≤ nI 40) ∧ (nI i = nI 0 ∨ nI i = nI 1) := ⟨⟨Int32.not_lt.mp h1, Int32.not_lt.mp h2⟩, ⟨Int32.not_lt.mp h3, Int32.not_lt.mp h4⟩, by rcases (show i = 0 ∨ i = 1 by omega) with rfl | rfl; exact Or.inl rfl; exact Or.inr rfl⟩
  obtain ⟨_, _, ct1, he, rfl, rfl, g1, g2⟩ := f42 (X := X) (D := D) (ct := ct) (d := d + 4) h ha.2.1
  have l1 : zLk ct ct1 := fun b hb => g2 b (by omega)
  unfold f95
  rw [if_pos hc, nI_clamp (by omega), nI_clamp (by omega)]
  refine b95_33 he (b95_37 ?_)
  refine z_loop0 m (fun k ls ct2 => ∃ a b s l7, ls = [.ref 0, .int (nI y), .int (nI m), .int (nI i), .int a, .int b, .int (nI k), l7] ∧ zLk ct ct2 ∧ zTm ct2 22 s ∧ zOk (sr σ * sc σ) s ∧ fyr σ y m = zfor (fun k p => (if σ 0 2 < nI (sfine σ (slv (sr σ * sc σ) (sdr y k) p.2.2)) then p.1 else p.1 + nI 1, p.2.1 + nI (sfine σ (slv (sr σ * sc σ) (sdr y k) p.2.2)), slv (sr σ * sc σ) (sdr y k) p.2.2)) (m - k) k (a, b, s)) ⟨nI 0, nI 0, σ 3, _, rfl, l1, g1, hk, rfl⟩ ?_ ?_
  · rintro k _ ct2 hkm ⟨a, b, s, l7, rfl, l2, hs, hks, hf⟩ ih
    rw [zfor_step hkm] at hf
    refine b95_46 (fun q => ?_) (fun _ => ?_)
    · rw [zle (by omega) (by omega)] at q; omega
    refine b95_52 (e96 (by omega) (by omega)) ?_
    have hp2 := ha.1.lk l2
    obtain ⟨_, _, ct3, he3, rfl, rfl, g3, g4⟩ := e97 (X := X) (D := D) (ct := ct2) (d := d + 4) (n := sdr y k) h hp2 hs (by have := sdr_lt y k; omega)
    refine b95_59 he3 ?_
    have l3 := l2.t g4
    have hks3 := slv_ok (n := sdr y k) hks hN (by omega)
    obtain ⟨_, _, ct4, he4, rfl, rfl, g5, g6⟩ := f51 (X := X) (D := D) (ct := ct3) (d := d + 1) h (ha.1.lk l3) g3 hks3
    have l4 : zLk ct ct4 := l3.t fun b hb => g5 b (by omega) (by omega)
    have hs4 := g3.keep (ct' := ct4) fun b q1 q2 => g5 b (by omega) (by omega)
    have hl := (ha.1.lk l4).2.2.1
    refine b95_62 he4 (b95_69 (fun h7 => b95_86 (ih _ _ ⟨_, _, _, _, by rw [nI_add], l4, hs4, hks3, ?_⟩)) (fun h7 => b95_83 (ih _ _ ⟨_, _, _, _, by rw [nI_add], l4, hs4, hks3, ?_⟩)))
    · rw [hl] at h7
      simp only [if_pos h7] at hf
      exact hf
    · rw [hl] at h7
      simp only [if_neg h7] at hf
      exact hf
  · rintro _ ct2 ⟨a, b, s, l7, rfl, l2, hs, hks, hf⟩
    rw [zfor_end] at hf
    rw [hf]
    refine b95_46 (fun _ => b95_99 (fun h7 => b95_103 (zQ_of ⟨by rw [if_pos h7], PC_lk ha l2⟩)) (fun h7 => b95_108 (zQ_of ⟨by rw [if_neg h7], PC_lk ha l2⟩))) (fun q => absurd ((zle (by omega) (by omega)).2 (Nat.le_refl _)) q)
end
