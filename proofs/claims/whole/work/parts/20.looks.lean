/-! The class's calls that only look. -/
theorem z_in {x : Int32} {n : Nat} (hn : n < 1000000000) (h1 : ¬ x < nI 0) (h2 : x ≤ nI n) : ∃ j, j ≤ n ∧ x = nI j := nI_of2 (nI_toInt (by omega)) h1 h2
/-- behind a call: the class stands for σ', the reference's rows are as they were -/
def PC (σ' : zM) (D : zD) (ct : zM) (D' : zD) (ct' : zM) : Prop := CA σ' D' ct' ∧ (∀ b, mRow b → ct' b = ct b) ∧ D.1 ≤ D'.1 ∧ D'.1 ≤ D.1 + 1
theorem PC_tr {σ : zM} {D : zD} {ct ct' : zM} (ha : CA σ D ct) (k : ∀ b, ¬ (22 ≤ b ∧ b ≤ 30) → ct' b = ct b) : PC σ D ct D ct' :=
  ⟨ha.keep (fun b hb => k b (by unfold cRow at hb; omega)) (by rw [k 0 (by omega)]) (by rw [k 1 (by omega)]), fun b hb => k b (by unfold mRow at hb; omega), Nat.le_refl _, Nat.le_succ _⟩
def sIn (N : Nat) (x : Int32) : Bool := decide (nI 0 ≤ x ∧ x < nI N)
theorem sIn_y {N j : Nat} (hj : j < N) (hN : N < 1000000000) : sIn N (nI j) = true := by
  unfold sIn
  rw [decide_eq_true_eq, zle (by omega) (by omega), zlt (by omega) (by omega)]
  omega
theorem sIn_n {N : Nat} {x : Int32} (h : ¬ ∃ j, j < N ∧ x = nI j) (hN : N < 1000000000) : sIn N x = false := by
  unfold sIn
  rw [decide_eq_false_iff_not]
  rintro ⟨h1, h2⟩
  rcases pk_ix x (n := N) (by omega) with h3 | h3 | h3
  · exact absurd h1 (Int32.not_le.mpr h3)
  · exact absurd h2 (Int32.not_lt.mpr h3)
  · exact h h3
def sgo (n : Int32) (s : Nat → Int32) : Nat → Int32 := fun j => if j = 110 then s 110 + n else if 36 ≤ j ∧ j < 72 ∧ s (j - 36) = nI 5 then s j + n else s j
def swd (w : Int32) (s : Nat → Int32) : Nat → Int32 := upd s 108 w
def sey (e : Int32) (s : Nat → Int32) : Nat → Int32 := upd s 109 e
theorem sgo_ok {N : Nat} {n : Int32} {s : Nat → Int32} (h : zOk N s) : zOk N (sgo n s) := by
  refine ⟨fun j hj => ?_, ?_⟩
  · unfold sgo
    rw [if_neg (by omega), if_neg (by omega), if_neg (by omega), if_neg (by omega)]
    exact h.1 j hj
  · unfold sgo
    rw [if_neg (by omega), if_neg (by omega)]
    exact h.2
theorem swd_ok {N : Nat} {w : Int32} {s : Nat → Int32} (h : zOk N s) : zOk N (swd w s) := by
  unfold swd
  refine ⟨fun j hj => ?_, ?_⟩
  · rw [pk_un (by omega), pk_un (by omega)]; exact h.1 j hj
  · rw [pk_un (by decide)]; exact h.2
theorem sey_ok {N e : Nat} {s : Nat → Int32} (h : zOk N s) (he : e < N) : zOk N (sey (nI e) s) := by
  unfold sey
  refine ⟨fun j hj => ?_, ?_⟩
  · rw [pk_un (by omega), pk_un (by omega)]; exact h.1 j hj
  · exact ⟨e, he, pk_us⟩
theorem swd_swd {w w' : Int32} {s : Nat → Int32} : swd w (swd w' s) = swd w s := by
  funext j
  unfold swd upd
  by_cases h : j = 108
  · rw [if_pos h, if_pos h]
  · rw [if_neg h, if_neg h, if_neg h]
theorem zTm_wd {ct : zM} {a : Nat} {s : Nat → Int32} {w : Int32} (h : zTm ct a s) : zTm (u2 ct a 3 w) a (swd w s) := by
  unfold swd
  refine ⟨fun j hj => ?_, ?_, ?_, ?_⟩
  · rw [u2_n (by omega), u2_n (by omega), u2_n (by omega), pk_un (by omega), pk_un (by omega), pk_un (by omega)]
    exact h.1 j hj
  · rw [u2_r, pk_us, pk_us]
  · rw [u2_r, pk_un (by decide), pk_un (by decide)]; exact h.2.2.1
  · rw [u2_r, pk_un (by decide), pk_un (by decide)]; exact h.2.2.2
theorem zTm_ey {ct : zM} {a : Nat} {s : Nat → Int32} {w : Int32} (h : zTm ct a s) : zTm (u2 ct a 4 w) a (sey w s) := by
  unfold sey
  refine ⟨fun j hj => ?_, ?_, ?_, ?_⟩
  · rw [u2_n (by omega), u2_n (by omega), u2_n (by omega), pk_un (by omega), pk_un (by omega), pk_un (by omega)]
    exact h.1 j hj
  · rw [u2_r, pk_un (by decide), pk_un (by decide)]; exact h.2.1
  · rw [u2_r, pk_us, pk_us]
  · rw [u2_r, pk_un (by decide), pk_un (by decide)]; exact h.2.2.2
section
variable {X : Nat × (Nat → Int32)} {D : zD} {ct σ : zM} {d a : Nat}
theorem e55 {x : Int32} (hx : zb x) : EV X (d + 1) 55 [.int x] (mk D ct) (some (.int x)) (mk D ct) := by
  refine EV_intro (Nat.le_of_ble_eq_true rfl) ?_
  rcases hx with rfl | rfl
  · exact b55_0 (fun _ => b55_8 ⟨rfl, rfl⟩) (fun h => absurd rfl h)
  · exact b55_0 (fun h => absurd h (by decide)) (fun _ => b55_4 ⟨rfl, rfl⟩)
theorem e65 {n : Int32} {s : Nat → Int32} (ha : zsh D a = (3, 0)) (hm : zTm ct a s) : CE X (d + 1) 65 [.ref a, .int n] D ct (fun v D' ct' => v = none ∧ D = D' ∧ zTm ct' a (sgo n s) ∧ zO a ct ct') := by
  refine CE_of (Nat.le_of_ble_eq_true rfl) ?_
  refine b65_0 ha ?_
  refine z_loop0 36 (fun i ls ct1 => ls = [.ref a, .int n, .int (nI i)] ∧ (∀ b, b ≠ a → b ≠ a + 2 → ct1 b = ct b) ∧ (ct1 a 3 = s 108 ∧ ct1 a 4 = s 109 ∧ ct1 a 5 = s 110 + n) ∧ ∀ j, j < 36 → ct1 (a + 2) j = if j < i ∧ s j = nI 5 then s (36 + j) + n else s (36 + j)) ⟨rfl, fun b h1 _ => u2_n h1, ⟨?_, ?_, ?_⟩, fun j hj => ?_⟩ ?_ ?_
  · rw [u2_a, if_neg (by omega)]; exact hm.2.1
  · rw [u2_a, if_neg (by omega)]; exact hm.2.2.1
  · rw [u2_a, if_pos ⟨rfl, rfl⟩, hm.2.2.2]
  · rw [u2_n (by omega), if_neg (by omega)]; exact (hm.1 j hj).2.1
  · rintro i _ ct1 hi ⟨rfl, h1, h2, h3⟩ ih
    refine b65_12 ha (fun h => ?_) (fun _ => ?_)
    · rw [zle (by omega) (by omega)] at h; omega
    have zx : zix (nI i) i 36 := zix_nI hi (by decide)
    have hk : ct1 (a + 1) i = s i := by rw [h1 (a + 1) (by omega) (by omega)]; exact (hm.1 i hi).1
    refine b65_18 ha zx (fun h => ?_) (fun h => ?_)
    · rw [hk] at h
      refine b65_28 ha zx zx (ih _ _ ⟨by rw [nI_add], fun b g1 g2 => by rw [u2_n g2]; exact h1 b g1 g2, by rw [u2_n (by omega)]; exact h2, fun j hj => ?_⟩)
      rw [u2_r]
      by_cases hj2 : j = i
      · subst hj2; rw [pk_us, h3 j hj, if_neg (by omega), if_pos ⟨by omega, h⟩]
      · rw [pk_un hj2, h3 j hj]
        have : (j < i ∧ s j = nI 5) ↔ (j < i + 1 ∧ s j = nI 5) := by constructor <;> (rintro ⟨p, q⟩; exact ⟨by omega, q⟩)
        simp only [this]
    · rw [hk] at h
      refine b65_38 ha (ih _ _ ⟨by rw [nI_add], h1, h2, fun j hj => ?_⟩)
      rw [h3 j hj]
      have : (j < i ∧ s j = nI 5) ↔ (j < i + 1 ∧ s j = nI 5) := by
        constructor
        · rintro ⟨p, q⟩; exact ⟨by omega, q⟩
        · rintro ⟨p, q⟩
          refine ⟨?_, q⟩
          have : j ≠ i := fun z => h (by rw [← z]; exact q)
          omega
      simp only [this]
  · rintro _ ct1 ⟨rfl, h1, h2, h3⟩
    refine b65_12 ha (fun _ => ?_) (fun h => absurd ((zle (by omega) (by omega)).2 (Nat.le_refl 36)) h)
    refine b65_44 ha (zQ_of ⟨rfl, rfl, ⟨fun j hj => ⟨?_, ?_, ?_⟩, ?_, ?_, ?_⟩, fun b hb => h1 b (by omega) (by omega)⟩)
    · rw [h1 (a + 1) (by omega) (by omega), (hm.1 j hj).1]
      unfold sgo; rw [if_neg (by omega), if_neg (by omega)]
    · rw [h3 j hj]
      unfold sgo
      rw [if_neg (show ¬ 36 + j = 110 by omega), show 36 + j - 36 = j by omega]
      have : (j < 36 ∧ s j = nI 5) ↔ (36 ≤ 36 + j ∧ 36 + j < 72 ∧ s j = nI 5) := by
        constructor
        · rintro ⟨p, q⟩; exact ⟨by omega, by omega, q⟩
        · rintro ⟨p, q, t⟩; exact ⟨hj, t⟩
      simp only [this]
    · rw [h1 (a + 3) (by omega) (by omega), (hm.1 j hj).2.2]
      unfold sgo; rw [if_neg (by omega), if_neg (by omega)]
    · rw [h2.1]; unfold sgo; rw [if_neg (by omega), if_neg (by omega)]
    · rw [h2.2.1]; unfold sgo; rw [if_neg (by omega), if_neg (by omega)]
    · rw [h2.2.2]; unfold sgo; rw [if_pos rfl]
/-- what was changed before the judge, and nothing else -/
def zLk (ct ct' : zM) : Prop := ∀ b, ¬ (22 ≤ b ∧ b ≤ 27) → ct' b = ct b
theorem zLk.t {ct ct' ct'' : zM} (h : zLk ct ct') (k : zLk ct' ct'') : zLk ct ct'' := fun b hb => (k b hb).trans (h b hb)
theorem CP.lk {σ ct ct' : zM} (h : CP σ ct) (k : zLk ct ct') : CP σ ct' := by
  unfold CP
  rw [k 11 (by omega), k 12 (by omega), k 13 (by omega)]
  exact h
theorem CA.lk {σ ct ct' : zM} {D : zD} (h : CA σ D ct) (k : zLk ct ct') : CA σ D ct' := h.keep (fun b hb => k b (by unfold cRow at hb; omega)) (by rw [k 0 (by omega)]) (by rw [k 1 (by omega)])
theorem PC_lk {σ ct ct' : zM} {D : zD} (h : CA σ D ct) (k : zLk ct ct') : PC σ D ct D ct' := PC_tr h fun b hb => k b (by omega)
theorem f69 {n : Int32} (h : WF σ) (ha : CA σ D ct) : CE X (d + 6) 69 [.ref 0, .int n] D ct (fun v D' ct' => v = some (.int (nI (sfine σ (sgo n (σ 3))))) ∧ D = D' ∧ zLk ct ct') := by
  have hk := h.2.2.2.2.2.2.2.2.2.1
  refine CE_of (Nat.le_of_ble_eq_true rfl) ?_
  obtain ⟨_, _, ct1, he, rfl, rfl, h1, h2⟩ := f42 (X := X) (D := D) (ct := ct) (d := d + 3) h ha.2.1
  refine b69_0 he ?_
  obtain ⟨_, _, ct2, he2, rfl, rfl, h3, h4⟩ := e65 (X := X) (D := D) (ct := ct1) (d := d + 4) (n := n) rfl h1
  refine b69_4 he2 ?_
  have l1 : zLk ct ct2 := fun b hb => by rw [h4 b (by omega), h2 b (by omega)]
  obtain ⟨_, _, ct3, he3, rfl, rfl, h5, h6⟩ := f51 (X := X) (D := D) (ct := ct2) (d := d) h (ha.1.lk l1) h3 (sgo_ok hk)
  exact b69_12 he3 (b69_19 (zQ_of ⟨rfl, rfl, l1.t fun b hb => h5 b (by omega) (by omega)⟩))
theorem f92 {w : Int32} (h : WF σ) (ha : CA σ D ct) : CE X (d + 6) 92 [.ref 0, .int w] D ct (fun v D' ct' => v = some (.int (nI (sfine σ (swd w (σ 3))))) ∧ D = D' ∧ zLk ct ct') := by
  have hk := h.2.2.2.2.2.2.2.2.2.1
  refine CE_of (Nat.le_of_ble_eq_true rfl) ?_
  obtain ⟨_, _, ct1, he, rfl, rfl, h1, h2⟩ := f42 (X := X) (D := D) (ct := ct) (d := d + 3) h ha.2.1
  refine b92_0 he ?_
  have l1 : zLk ct (u2 ct1 22 3 w) := fun b hb => by rw [u2_n (by omega), h2 b (by omega)]
  obtain ⟨_, _, ct3, he3, rfl, rfl, h5, h6⟩ := f51 (X := X) (D := D) (ct := u2 ct1 22 3 w) (d := d) h (ha.1.lk l1) (zTm_wd h1) (swd_ok hk)
  exact b92_4 he3 (b92_19 (zQ_of ⟨rfl, rfl, l1.t fun b hb => h5 b (by omega) (by omega)⟩))
def f50 (σ : zM) (w : Int32) : Int32 := if w = nI 0 then nI (sfine σ (σ 3)) else if w = nI 1 then (if σ 0 2 < nI (sfine σ (σ 3)) then nI 0 else nI 1) else if w = nI 2 then nI (zW (sp σ (σ 3)) (sr σ * sc σ)) else (-1)
theorem f50_n {w : Int32} (h : w < nI 0 ∨ ¬ w ≤ nI 2) : f50 σ w = (-1) := by
  unfold f50
  rw [if_neg, if_neg, if_neg]
  · intro z; subst z; revert h; decide
  · intro z; subst z; revert h; decide
  · intro z; subst z; revert h; decide
theorem k50 {w : Int32} (h : WF σ) (ha : CA σ D ct) : CE X (d + 6) 50 [.ref 0, .int w] D ct (fun v D' ct' => v = some (.int (f50 σ w)) ∧ PC σ D ct D' ct') := by
  have hk := h.2.2.2.2.2.2.2.2.2.1
  refine CE_of (Nat.le_of_ble_eq_true rfl) ?_
  refine b50_0 (fun h1 => b50_9 (zQ_of ⟨by rw [f50_n (Or.inl h1)], PC_lk ha fun _ _ => rfl⟩)) (fun h1 => ?_)
  refine b50_4 (fun h2 => ?_) (fun h2 => b50_9 (zQ_of ⟨by rw [f50_n (Or.inr h2)], PC_lk ha fun _ _ => rfl⟩))
  obtain ⟨j, hj, rfl⟩ := z_in (by decide) h1 h2
  obtain ⟨_, _, ct1, he, rfl, rfl, g1, g2⟩ := f42 (X := X) (D := D) (ct := ct) (d := d + 3) h ha.2.1
  refine b50_11 he ?_
  have l1 : zLk ct ct1 := fun b hb => g2 b (by omega)
  obtain ⟨_, _, ct3, he3, rfl, rfl, h5, h6⟩ := f51 (X := X) (D := D) (ct := ct1) (d := d) h (ha.1.lk l1) g1 hk
  refine b50_15 he3 ?_
  have l2 : zLk ct ct3 := l1.t fun b hb => h5 b (by omega) (by omega)
  have hl : ct3 11 2 = σ 0 2 := (ha.1.lk l2).2.2.1
  refine b50_22 (fun h7 => b50_27 (zQ_of ⟨by rw [h7]; rfl, PC_lk ha l2⟩)) (fun h7 => ?_)
  refine b50_29 (fun h8 => ?_) (fun h8 => b50_56 (zQ_of ⟨?_, PC_lk ha l2⟩))
  · rw [h8]
    refine b50_34 (fun h9 => b50_49 (e55 (Or.inl rfl)) (b50_53 (zQ_of ⟨?_, PC_lk ha l2⟩))) (fun h9 => b50_45 (e55 (Or.inr rfl)) (b50_53 (zQ_of ⟨?_, PC_lk ha l2⟩)))
    · rw [hl] at h9
      show some (Value.int (nI 0)) = some (Value.int (if σ 0 2 < _ then _ else _))
      rw [if_pos h9]
    · rw [hl] at h9
      show some (Value.int (nI 1)) = some (Value.int (if σ 0 2 < _ then _ else _))
      rw [if_neg h9]
  · have hj2 : j = 2 := by
      rw [zeq (by omega) (by omega)] at h7 h8
      omega
    subst hj2
    rw [h6.2.2.2]; rfl
def f41 (σ : zM) (x w : Int32) : Int32 :=
  if sIn (sr σ * sc σ) x = true then
    (if w = nI 0 then σ 1 x.toNatClampNeg else if w = nI 1 then σ 3 x.toNatClampNeg else if w = nI 2 then zsee (sr σ) (sc σ) (σ 1) (σ 3) (fun i => σ 3 (36 + i)) (fun i => σ 3 (72 + i)) (σ 3 108) x.toNatClampNeg else if w = nI 3 then nI (sp σ (σ 3) x.toNatClampNeg) else if w = nI 4 then σ 3 (36 + x.toNatClampNeg) else if w = nI 5 then σ 3 (72 + x.toNatClampNeg) else (-1))
  else (-1)
theorem f41_n {x w : Int32} (h : w < nI 0 ∨ ¬ w ≤ nI 5) : f41 σ x w = (-1) := by
  unfold f41
  split
  · rw [if_neg, if_neg, if_neg, if_neg, if_neg, if_neg]
    all_goals (intro z; subst z; revert h; decide)
  · rfl
theorem k41 {x w : Int32} (h : WF σ) (ha : CA σ D ct) : CE X (d + 6) 41 [.ref 0, .int x, .int w] D ct (fun v D' ct' => v = some (.int (f41 σ x w)) ∧ PC σ D ct D' ct') := by
  have hk := h.2.2.2.2.2.2.2.2.2.1
  have hN := h.N
  refine CE_of (Nat.le_of_ble_eq_true rfl) ?_
  have p0 := PC_lk ha (ct' := ct) fun _ _ => rfl
  by_cases hx : ∃ j, j < sr σ * sc σ ∧ x = nI j
  · obtain ⟨j, hj, rfl⟩ := hx
    refine b41_0 (e30y rfl (h.V ha.1) hj) (b41_8 (fun z => absurd z (by decide)) fun _ => ?_)
    refine b41_11 (fun h1 => b41_20 (zQ_of ⟨by rw [f41_n (Or.inl h1)], p0⟩)) (fun h1 => ?_)
    refine b41_15 (fun h2 => ?_) (fun h2 => b41_20 (zQ_of ⟨by rw [f41_n (Or.inr h2)], p0⟩))
    obtain ⟨i, hi, rfl⟩ := z_in (by decide) h1 h2
    have zx : zix (nI j) j 36 := zix_nI (by omega) (by decide)
    have hcl : (nI j).toNatClampNeg = j := nI_clamp (by omega)
    unfold f41
    rw [if_pos (sIn_y hj (by omega)), hcl]
    refine b41_22 ?_
    rcases (show i = 0 ∨ i = 1 ∨ i = 2 ∨ i = 3 ∨ i = 4 ∨ i = 5 by omega) with rfl | rfl | rfl | rfl | rfl | rfl
    · refine xsw_in (n := 0) (by decide) rfl (b41_56 zx (zQ_of ⟨?_, p0⟩))
      rw [if_pos rfl, ha.1.2.2.2.1 j (by omega)]
    · refine xsw_in (n := 1) (by decide) rfl (b41_66 zx (zQ_of ⟨?_, p0⟩))
      rw [if_neg (by decide), if_pos rfl, (ha.2.1.1 j (by omega)).1]
    · refine xsw_in (n := 2) (by decide) rfl ?_
      obtain ⟨_, _, ct1, he, rfl, rfl, g1, g2⟩ := f42 (X := X) (D := D) (ct := ct) (d := d + 3) h ha.2.1
      have l1 : zLk ct ct1 := fun b hb => g2 b (by omega)
      have hp := ha.1.lk l1
      refine b41_76 he (b41_80 (e43 (h.V hp) hj) (b41_88 (zQ_of ⟨?_, PC_lk ha l1⟩)))
      rw [if_neg (by decide), if_neg (by decide), if_pos rfl, g1.2.1]
      rw [zsee_congr hj (fun i hi => hp.2.2.2.1 i (by omega)) (fun i hi => (g1.1 i (by omega)).1) (ag' := fun i => σ 3 (36 + i)) (fun i hi _ => by rw [(g1.1 i (by omega)).2.1]) (hu' := fun i => σ 3 (72 + i)) (fun i hi => (g1.1 i (by omega)).2.2)]
    · refine xsw_in (n := 3) (by decide) rfl ?_
      obtain ⟨_, _, ct1, he, rfl, rfl, g1, g2⟩ := f42 (X := X) (D := D) (ct := ct) (d := d + 3) h ha.2.1
      have l1 : zLk ct ct1 := fun b hb => g2 b (by omega)
      have hp := ha.1.lk l1
      obtain ⟨t1, t2⟩ := zTr_of h hp g1 hk
      refine b41_89 he (b41_93 (e45 t1.1 hj t1.2.1 (t1.2.2.1 j hj) (t1.2.2.2 j hj)) (b41_101 (zQ_of ⟨?_, PC_lk ha l1⟩)))
      rw [if_neg (by decide), if_neg (by decide), if_neg (by decide), if_pos rfl, ← t2 j hj]
      rfl
    · refine xsw_in (n := 4) (by decide) rfl (b41_102 zx (zQ_of ⟨?_, p0⟩))
      rw [if_neg (by decide), if_neg (by decide), if_neg (by decide), if_neg (by decide), if_pos rfl, (ha.2.1.1 j (by omega)).2.1]
    · refine xsw_out (Or.inr (by decide)) ?_
      have hb := (hk.1 j (by omega)).2
      have hv := (ha.2.1.1 j (by omega)).2.2
      refine b41_112 zx (fun h9 => b41_128 (zQ_of ⟨?_, p0⟩)) (fun h9 => b41_124 (zQ_of ⟨?_, p0⟩))
      · rw [if_neg (by decide), if_neg (by decide), if_neg (by decide), if_neg (by decide), if_neg (by decide), if_pos rfl, ← hv, h9]
      · rw [if_neg (by decide), if_neg (by decide), if_neg (by decide), if_neg (by decide), if_neg (by decide), if_pos rfl]
        rw [hv] at h9
        rw [hb.resolve_left h9]
  · refine b41_0 (e30n rfl (h.V ha.1) hx) (b41_8 (fun _ => b41_20 (zQ_of ⟨?_, p0⟩)) fun z => absurd rfl z)
    unfold f41
    rw [sIn_n hx (by omega)]
    rfl
end
