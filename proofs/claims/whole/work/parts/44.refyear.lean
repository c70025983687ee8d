/-! The reference: year, never. -/
def slw (N n : Nat) (s : Nat → Int32) : Nat → Int32 := swd (nI (n / 64 % 4)) (sgr (nI 1) (if s (n % N) = nI (n / 8 % 8) then s else spl (n % N) (nI (n / 8 % 8)) (nI 0) s))
theorem slw_ok {N n : Nat} {s : Nat → Int32} (h : zOk N s) (hN : N ≤ 36) (hn : 0 < N) : zOk N (slw N n s) := by
  have m1 : n % N < N := Nat.mod_lt _ hn
  have m2 : n / 8 % 8 < 8 := Nat.mod_lt _ (by decide)
  unfold slw
  refine swd_ok (sgr_ok ?_)
  split
  · exact h
  · exact spl_ok h (by omega) ⟨_, m2, rfl⟩
theorem slw_slv {N n : Nat} {s s' : Nat → Int32} (hN : N ≤ 36) (hn : 0 < N) (e : ∀ j, j < 110 → s' j = s j) : ∀ j, j < 110 → slw N n s' j = slv N n s j := by
  have m1 : n % N < N := Nat.mod_lt _ hn
  have key : ∀ j, j < 110 → (if s' (n % N) = nI (n / 8 % 8) then s' else spl (n % N) (nI (n / 8 % 8)) (nI 0) s') j = (if s (n % N) = nI (n / 8 % 8) then s else spl (n % N) (nI (n / 8 % 8)) (nI 0) s) j := by
    intro j hj
    rw [e (n % N) (by omega)]
    split
    · exact e j hj
    · unfold spl
      rw [e j hj]
  intro j hj
  unfold slw slv swd
  by_cases e8 : j = 108
  · subst e8; rw [pk_us, pk_us]
  rw [pk_un e8, pk_un e8]
  unfold sgr sgo
  rw [if_neg (show ¬ j = 110 by omega), key j hj, key (j - 36) (by omega)]
def snm (σ : zM) (n : Nat) (s : Nat → Int32) : Nat → Int32 := fun k => if k < n then σ 1 k else if 36 ≤ k ∧ k - 36 < n then (if s (k - 36) = nI 5 ∧ σ 1 (k - 36) = nI 5 then s k else nI 0) else s k
theorem snm_ok {σ : zM} {n : Nat} {s : Nat → Int32} (h : WF σ) (hs : zOk (sr σ * sc σ) s) (hn : n ≤ 36) : zOk (sr σ * sc σ) (snm σ n s) := by
  refine ⟨fun j hj => ⟨?_, ?_⟩, ?_⟩
  · unfold snm
    split
    · exact h.sh1 j hj
    · rw [if_neg (by omega)]; exact (hs.1 j hj).1
  · unfold snm
    rw [if_neg (by omega), if_neg (by omega)]; exact (hs.1 j hj).2
  · unfold snm
    rw [if_neg (by omega), if_neg (by omega)]; exact hs.2
theorem slw_w {N n : Nat} {s : Nat → Int32} : zwi (slw N n s 108) := by
  unfold slw swd
  rw [pk_us]
  exact ⟨_, Nat.mod_lt _ (by decide), rfl⟩
theorem snm_w {σ : zM} {n : Nat} {s : Nat → Int32} (hn : n ≤ 36) : snm σ n s 108 = s 108 := by
  unfold snm
  rw [if_neg (by omega), if_neg (by omega)]
theorem snm_snv {σ : zM} {s : Nat → Int32} {x : Nat} (h : WF σ) (hx : x < sr σ * sc σ) : sp σ (snm σ (sr σ * sc σ) s) x = sp σ (snv σ (sr σ * sc σ) s) x := by
  have hN := h.N
  unfold sp
  have e8 : snm σ (sr σ * sc σ) s 108 = snv σ (sr σ * sc σ) s 108 := by
    unfold snm snv
    rw [if_neg (by omega), if_neg (by omega), if_neg (by omega), if_neg (by omega)]
  have e9 : snm σ (sr σ * sc σ) s 109 = snv σ (sr σ * sc σ) s 109 := by
    unfold snm snv
    rw [if_neg (by omega), if_neg (by omega), if_neg (by omega), if_neg (by omega)]
  rw [e8, e9]
  refine zP_congr hx (fun _ _ => rfl) (fun j hj => ?_) (fun j hj h5 => ?_) (fun j hj => ?_)
  · unfold snm snv
    rw [if_pos hj, if_pos hj]
  · have h5 : σ 1 j = nI 5 := by unfold snm at h5; rw [if_pos hj] at h5; exact h5
    have e : snm σ (sr σ * sc σ) s (36 + j) = snv σ (sr σ * sc σ) s (36 + j) := by
      have ej : 36 + j - 36 = j := by omega
      unfold snm snv
      rw [if_neg (show ¬ 36 + j < sr σ * sc σ by omega), if_neg (show ¬ 36 + j < sr σ * sc σ by omega), ej, if_pos (show 36 ≤ 36 + j ∧ j < sr σ * sc σ from ⟨by omega, hj⟩)]
      by_cases q : s j = nI 5
      · rw [if_pos (show s j = nI 5 ∧ σ 1 j = nI 5 from ⟨q, h5⟩), if_neg (show ¬ (36 ≤ 36 + j ∧ j < sr σ * sc σ ∧ ¬ s j = σ 1 j) from fun z => z.2.2 (by rw [q, h5]))]
      · rw [if_neg (show ¬ (s j = nI 5 ∧ σ 1 j = nI 5) from fun z => q z.1), if_pos (show 36 ≤ 36 + j ∧ j < sr σ * sc σ ∧ ¬ s j = σ 1 j from ⟨by omega, hj, fun z => q (by rw [z, h5])⟩)]
    show nI 3 ≤ snm σ (sr σ * sc σ) s (36 + j) ↔ nI 3 ≤ snv σ (sr σ * sc σ) s (36 + j)
    rw [e]
  · show snm σ (sr σ * sc σ) s (72 + j) = snv σ (sr σ * sc σ) s (72 + j)
    unfold snm snv
    rw [if_neg (by omega), if_neg (by omega), if_neg (by omega), if_neg (by omega)]
section
variable {X : Nat × (Nat → Int32)} {D : zD} {ct σ : zM} {d a : Nat} {s : Nat → Int32}
theorem mT_nv {i : Nat} {v : Int32} (hi : i < 36) (hm : mT ct 37 (snm σ i s)) (hv : v = if s i = nI 5 ∧ σ 1 i = nI 5 then s (36 + i) else nI 0) : mT (u2 (u2 ct 37 i (σ 1 i)) 37 (36 + i) v) 37 (snm σ (i + 1) s) := by
  intro k hk
  rw [u2_r, u2_r]
  by_cases e1 : k = 36 + i
  · subst e1
    rw [pk_us]
    unfold snm
    rw [if_neg (by omega), if_pos (by omega), show 36 + i - 36 = i by omega]
    exact hv
  rw [pk_un e1]
  by_cases e2 : k = i
  · subst e2
    rw [pk_us]
    unfold snm
    rw [if_pos (by omega)]
  rw [pk_un e2, hm k hk]
  unfold snm
  by_cases q : k < i
  · rw [if_pos q, if_pos (show k < i + 1 by omega)]
  rw [if_neg q, if_neg (show ¬ k < i + 1 by omega)]
  by_cases q2 : 36 ≤ k ∧ k - 36 < i
  · rw [if_pos q2, if_pos (show 36 ≤ k ∧ k - 36 < i + 1 by omega)]
  · rw [if_neg q2, if_neg (show ¬ (36 ≤ k ∧ k - 36 < i + 1) by omega)]
theorem k156 {w : Int32} (h : WF σ) (ha : MA σ ct) : CE X (d + 5) 156 [.ref 33, .int w] (zDm D) ct (fun v D' ct' => v = some (.int (f82 σ w)) ∧ PM σ D ct D' ct') := by
  have hN := h.N
  have hc := h.2.1.2
  have hr := h.1.2
  have e0 : ct 34 0 = nI (sr σ) := ha.mp.1.trans h.e0
  unfold f82
  have cnd : (nI 0 ≤ w ∧ w ≤ ct 34 0 - nI 1) ↔ ∃ j, j < sr σ ∧ w = nI j := by rw [e0]; exact in_ix (by omega) (by omega)
  refine CE_of (Nat.le_of_ble_eq_true rfl) (b156_0 (by rw [lN_i64 (by decide)]; exact e108) (b156_15 (fun q => b156_18 (zQ_of ⟨?_, PM_0 ha⟩)) (fun q => ?_)))
  · rw [yn_0, cnd] at q
    rw [if_neg]
    rintro ⟨z1, z2⟩
    rw [h.e0] at z2
    rcases pk_ix w (n := sr σ) (by omega) with z | z | z
    · exact absurd z1 (Int32.not_le.mpr z)
    · exact absurd z2 (Int32.not_lt.mpr z)
    · exact q z
  rw [yn_0, cnd, Classical.not_not] at q
  obtain ⟨y, hy, rfl⟩ := q
  rw [if_pos ⟨nI_pos' (by omega), by rw [h.e0, zlt (by omega) (by omega)]; exact hy⟩, nI_clamp (by omega)]
  obtain ⟨_, _, ct1, he, rfl, rfl, k1, k2⟩ := e149 (X := X) (D := D) (d := d + 2) ha.mt
  refine b156_20 he (b156_24 ?_)
  have z0 : ∀ k, k < 36 → zix (nI 0 + nI k) k 111 := fun k hk => ⟨by rw [nI_add, Nat.zero_add], by omega, by decide⟩
  have z6 : ∀ k, k < 36 → zix (nI 36 + nI k) (36 + k) 111 := fun k hk => ⟨by rw [nI_add], by omega, by decide⟩
  have z9 : ∀ k, k < 36 → zix (nI 9 + nI k) (9 + k) 81 := fun k hk => ⟨by rw [nI_add], by omega, by decide⟩
  refine z_loop0 (sr σ * sc σ) (fun i ls ct2 => ∃ l3 l4, ls = [.ref 33, .int (nI y), .int (nI i), l3, l4] ∧ (∀ b, b ≠ 37 → ct2 b = ct b) ∧ mT ct2 37 (snm σ i (σ 3))) ⟨_, _, rfl, k1, ?_⟩ ?_ ?_
  · have : snm σ 0 (σ 3) = σ 3 := by
      funext k; unfold snm
      rw [if_neg (Nat.not_lt_zero _), if_neg (fun z => Nat.not_lt_zero _ z.2)]
    rw [this]; exact k2
  · rintro i _ ct2 hi ⟨l3, l4, rfl, g1, g2⟩ ih
    have h34 : ct2 34 (9 + i) = σ 1 i := by rw [g1 34 (by decide)]; exact ha.mp.2.2.2.1 i (by omega)
    have h36 : ct2 36 i = σ 3 i := by rw [g1 36 (by decide)]; exact ha.mt i (by omega)
    have h36a : ct2 36 (36 + i) = σ 3 (36 + i) := by rw [g1 36 (by decide)]; exact ha.mt _ (by omega)
    refine b156_26 (e122 h (ha.mp.k (g1 34 (by decide)))) (b156_31 (fun z => ?_) (fun _ => ?_))
    · rw [zle (by omega) (by omega)] at z; omega
    have no : ¬ (σ 3 i = nI 5 ∧ σ 1 i = nI 5) → RUN X (EV X (d + 4)) 156 (zQ fun v D' ct' => v = some (.int (zfor (fun x b => if sp σ (snv σ (sr σ * sc σ) (σ 3)) (y * sc σ + x) = 0 then b else b ||| nI 1 <<< (nI x &&& 31)) (sc σ) 0 (nI 0))) ∧ PM σ D ct D' ct') 63 [.ref 33, .int (nI y), .int (nI i), l3, l4] [] (mk (zDm D) ct2) := fun hn => by
      refine b156_63 (z9 i (by omega)) (z0 i (by omega)) (fun _ => b156_106 (z6 i (by omega)) (ih _ _ ⟨.int (nI 0), l4, by rw [nI_add], fun b hb => by rw [u2_n hb, u2_n hb, g1 b hb], ?_⟩)) (fun z => absurd rfl z)
      rw [h34]
      exact mT_nv (by omega) g2 (by rw [if_neg hn])
    refine b156_34 (z0 i (by omega)) (fun q1 => b156_46 (z9 i (by omega)) (fun q2 => ?_) (fun q2 => no fun z => q2 (by rw [h34]; exact z.2))) (fun q1 => no fun z => q1 (by rw [h36]; exact z.1))
    rw [h36] at q1
    rw [h34] at q2
    refine b156_59 (z9 i (by omega)) (z0 i (by omega)) (fun z => absurd z (by decide)) (fun _ => b156_94 (z6 i (by omega)) (z6 i (by omega)) (ih _ _ ⟨.int (nI 1), l4, by rw [nI_add], fun b hb => by rw [u2_n hb, u2_n hb, g1 b hb], ?_⟩))
    rw [h34, u2_n (by decide), h36a]
    exact mT_nv (by omega) g2 (by rw [if_pos ⟨q1, q2⟩])
  · rintro _ ct2 ⟨l3, l4, rfl, g1, g2⟩
    have hmp := ha.mp.k (g1 34 (by decide))
    have hc2 : ct2 34 1 = nI (sc σ) := hmp.2.1.trans h.e1
    refine b156_26 (e122 h hmp) (b156_31 (fun _ => b156_114 ?_) (fun z => absurd ((zle (by omega) (by omega)).2 (Nat.le_refl _)) z))
    refine z_loop0 (sc σ) (fun i ls ct3 => ct3 = ct2 ∧ ∃ b l4, ls = [.ref 33, .int (nI y), .int b, .int (nI i), l4] ∧ zfor (fun x b => if sp σ (snv σ (sr σ * sc σ) (σ 3)) (y * sc σ + x) = 0 then b else b ||| (nI 1 <<< (nI x &&& 31))) (sc σ) 0 (nI 0) = zfor (fun x b => if sp σ (snv σ (sr σ * sc σ) (σ 3)) (y * sc σ + x) = 0 then b else b ||| (nI 1 <<< (nI x &&& 31))) (sc σ - i) i b) ⟨rfl, nI 0, _, rfl, rfl⟩ ?_ ?_
    · rintro i _ _ hi ⟨rfl, b, l4, rfl, g3⟩ ih
      rw [zfor_step hi] at g3
      have hx : y * sc σ + i < sr σ * sc σ := by
        have : (y + 1) * sc σ ≤ sr σ * sc σ := Nat.mul_le_mul_right _ hy
        rw [Nat.succ_mul] at this
        omega
      have ex : nI y * nI (sc σ) + nI i = nI (y * sc σ + i) := by rw [pk_mul, nI_add]
      refine b156_118 (fun z => ?_) (fun _ => ?_)
      · rw [hc2, zle (by omega) (by omega)] at z; omega
      have ok := snm_ok h h.now (n := sr σ * sc σ) hN
      have hs1 := h.sh1 (y * sc σ + i) (by omega)
      have hs2 : zk (szs σ (snm σ (sr σ * sc σ) (σ 3)) (y * sc σ + i)) := zsee_k hs1 (ok.1 _ (by omega)).1
      have key : sp σ (snm σ (sr σ * sc σ) (σ 3)) (y * sc σ + i) = 0 ↔ szs σ (snm σ (sr σ * sc σ) (σ 3)) (y * sc σ + i) = σ 1 (y * sc σ + i) := zcost_pos hs2 hs1
      rw [snm_snv h hx] at key
      refine b156_128 (by rw [hc2, ex]; exact e125 h hmp rfl g2 ok (zw_of h.ww.1 (snm_w hN)) hx) ?_
      rw [hc2, ex]
      have e34 := hmp.2.2.2.1 (y * sc σ + i) (by omega)
      refine b156_151 (z9 _ (by omega)) (fun q => b156_164 (ih _ _ ⟨rfl, b, _, by rw [nI_add, show nI 0 = 0 from rfl, Int32.or_zero], ?_⟩)) (fun q => b156_168 (ih _ _ ⟨rfl, _, _, by rw [nI_add], ?_⟩))
      · rw [e34] at q
        rw [if_pos (key.2 q)] at g3; exact g3
      · rw [e34] at q
        rw [if_neg (fun z => q (key.1 z))] at g3; exact g3
    · rintro _ _ ⟨rfl, b, l4, rfl, g3⟩
      rw [zfor_end] at g3
      refine b156_118 (fun _ => b156_179 (zQ_of ⟨by rw [g3], PM_look ha g1⟩)) (fun z => absurd (by rw [hc2]; exact (zle (by omega) (by omega)).2 (Nat.le_refl _)) z)
theorem k167 {z n w : Int32} (h : WF σ) (ha : MA σ ct) : CE X (d + 7) 167 [.ref 33, .int z, .int n, .int w] (zDm D) ct (fun v D' ct' => v = some (.int (f95 σ z n w)) ∧ PM σ D ct D' ct') := by
  have hN := h.N
  have hN1 := h.N1
  have bad : ¬ ((nI 0 ≤ z ∧ z ≤ nI 9999) ∧ (nI 1 ≤ n ∧ n ≤ nI 40) ∧ (w = nI 0 ∨ w = nI 1)) → some (Value.int (-1)) = some (.int (f95 σ z n w)) ∧ PM σ D ct (zDm D) ct := fun q => by
    unfold f95; rw [if_neg q]; exact ⟨rfl, PM_0 ha⟩
  refine CE_of (Nat.le_of_ble_eq_true rfl) (b167_0 (e108n (by decide) (by decide)) (b167_9 (fun q => b167_31 (zQ_of (bad ?_))) (fun q => ?_)))
  · rw [yn_0] at q; exact fun y => q y.1
  rw [yn_0, Classical.not_not] at q
  refine b167_12 (e108n (by decide) (by decide)) (b167_21 (fun q2 => b167_31 (zQ_of (bad ?_))) (fun q2 => ?_))
  · rw [yn_0] at q2; exact fun y => q2 y.2.1
  rw [yn_0, Classical.not_not] at q2
  refine b167_24 e148 (b167_28 (fun q3 => b167_31 (zQ_of (bad ?_))) (fun q3 => ?_))
  · rw [yn_0, two_iff] at q3; exact fun y => q3 y.2.2
  rw [yn_0, two_iff, Classical.not_not] at q3
  unfold f95
  rw [if_pos ⟨q, q2, q3⟩]
  obtain ⟨y, hy, rfl⟩ := z_in (by decide) (Int32.not_lt.mpr q.1) q.2
  obtain ⟨m, hm, rfl⟩ := z_in (by decide) (Int32.not_lt.mpr (Int32.le_trans (by decide) q2.1)) q2.2
  rw [nI_clamp (by omega), nI_clamp (by omega)]
  obtain ⟨_, _, ct1, he, rfl, rfl, k1, k2⟩ := e149 (X := X) (D := D) (d := d + 4) ha.mt
  refine b167_33 he (b167_37 ?_)
  refine z_loop0 m (fun k ls ct2 => ∃ a b s s' l7 l8 l9 l10 l11 l12, ls = [.ref 33, .int (nI y), .int (nI m), .int w, .int a, .int b, .int (nI k), l7, l8, l9, l10, l11, l12] ∧ (∀ b, b ≠ 37 → ct2 b = ct b) ∧ mT ct2 37 s' ∧ (∀ j, j < 110 → s' j = s j) ∧ zOk (sr σ * sc σ) s' ∧ fyr σ y m = zfor (fun k p => (if σ 0 2 < nI (sfine σ (slv (sr σ * sc σ) (sdr y k) p.2.2)) then p.1 else p.1 + nI 1, p.2.1 + nI (sfine σ (slv (sr σ * sc σ) (sdr y k) p.2.2)), slv (sr σ * sc σ) (sdr y k) p.2.2)) (m - k) k (a, b, s)) ⟨nI 0, nI 0, σ 3, σ 3, _, _, _, _, _, _, rfl, k1, k2, fun _ _ => rfl, h.now, rfl⟩ ?_ ?_
  · rintro k _ ct2 hkm ⟨a, b, s, s', l7, l8, l9, l10, l11, l12, rfl, g1, g2, g3, g4, g5⟩ ih
    rw [zfor_step hkm] at g5
    refine b167_46 (fun z => ?_) (fun _ => ?_)
    · rw [zle (by omega) (by omega)] at z; omega
    have hmp := ha.mp.k (g1 34 (by decide))
    refine b167_52 (e122 h hmp) ?_
    have hx : 7919 * y + 6151 * k + 1 ≤ 79500000 := by omega
    have hx2 := Nat.mul_le_mul hx hx
    have hsd := sdr_lt y k
    have eL : lN 7919 * (nI y).toInt64 + lN 6151 * (nI k).toInt64 + lN 1 = lN (7919 * y + 6151 * k + 1) := by
      rw [nI_l (by omega), nI_l (by omega), lN_mul, lN_mul, lN_add, lN_add]
    have hml : (7919 * y + 6151 * k + 1) * (7919 * y + 6151 * k + 1) % 65521 < 65521 := Nat.mod_lt _ (by decide)
    have eD : (lN (7919 * y + 6151 * k + 1) * lN (7919 * y + 6151 * k + 1) - lN (7919 * y + 6151 * k + 1) * lN (7919 * y + 6151 * k + 1) / lN 65521 * lN 65521).toInt32 / nI 2 = nI (sdr y k) := by
      rw [lN_mul, pk_lRem (by omega) (by decide) (by decide), lN_i, pk_div (by omega) (by decide) (by decide)]
      rfl
    rw [eL, eD]
    generalize sdr y k = n at hsd g5 ⊢
    have m1 : n % (sr σ * sc σ) < sr σ * sc σ := Nat.mod_lt _ (by omega)
    have m2 : n / 8 % 8 < 8 := Nat.mod_lt _ (by decide)
    have e1 : nI n - nI n / nI (sr σ * sc σ) * nI (sr σ * sc σ) = nI (n % (sr σ * sc σ)) := pk_rem (by omega) (by omega) (by omega)
    have e2 : nI n / nI 8 - nI n / nI 8 / nI 8 * nI 8 = nI (n / 8 % 8) := by rw [pk_div (by omega) (by decide) (by decide), pk_rem (by omega) (by decide) (by decide)]
    have e3 : nI n / nI 64 - nI n / nI 64 / nI 4 * nI 4 = nI (n / 64 % 4) := by rw [pk_div (by omega) (by decide) (by decide), pk_rem (by omega) (by decide) (by decide)]
    have sf2 : sfine σ (slw (sr σ * sc σ) n s') = sfine σ (slv (sr σ * sc σ) n s) := sfine_c h (slw_slv hN (by omega) g3)
    have last : ∀ (ct3 : zM) (t : Nat → Int32) (l12 : Value), mT ct3 37 t → (∀ b, b ≠ 37 → ct3 b = ct b) → slw (sr σ * sc σ) n s' = swd (nI (n / 64 % 4)) (sgr (nI 1) t) → RUN X (EV X (d + 6)) 167 (zQ fun v D' ct' => v = some (.int (if w = nI 0 then (fyr σ y m).1 else (fyr σ y m).2.1)) ∧ PM σ D ct D' ct') 128 [.ref 33, .int (nI y), .int (nI m), .int w, .int a, .int b, .int (nI k), .long (lN (7919 * y + 6151 * k + 1)), .double 0, .int (nI n), .int (nI (n % (sr σ * sc σ))), .int (nI (n / 8 % 8)), l12] [] (mk (zDm D) ct3) := by
      intro ct3 t l12 q1 q2 q3
      obtain ⟨_, _, ct4, he4, rfl, rfl, k3, k4⟩ := e145 (X := X) (D := D) (d := d + 5) (ct := ct3) (a := 37) (n := nI 1) rfl q1
      have g6 : ∀ b, b ≠ 37 → u2 ct4 37 108 (nI (n / 64 % 4)) b = ct b := fun b hb => by rw [u2_n hb, k3 b hb, q2 b hb]
      have hm5 : mT (u2 ct4 37 108 (nI (n / 64 % 4))) 37 (slw (sr σ * sc σ) n s') := by rw [q3]; exact mT_wd k4
      have ok5 := slw_ok (n := n) g4 hN (by omega)
      refine b167_128 he4 (b167_136 (by rw [e3]; exact e133 h (ha.mp.k (g6 34 (by decide))) rfl hm5 ok5 slw_w) ?_)
      have hl : u2 ct4 37 108 (nI (n / 64 % 4)) 34 2 = σ 0 2 := by rw [g6 34 (by decide)]; exact ha.mp.2.2.1
      rw [sf2]
      refine b167_158 (fun q5 => b167_177 (ih _ _ ⟨a, b + nI (sfine σ (slv (sr σ * sc σ) n s)), slv (sr σ * sc σ) n s, slw (sr σ * sc σ) n s', _, _, _, _, _, _, by rw [nI_add, show a + nI 0 = a from Int32.add_zero a], g6, hm5, slw_slv hN (by omega) g3, ok5, ?_⟩)) (fun q5 => b167_173 (ih _ _ ⟨a + nI 1, b + nI (sfine σ (slv (sr σ * sc σ) n s)), slv (sr σ * sc σ) n s, slw (sr σ * sc σ) n s', _, _, _, _, _, _, by rw [nI_add], g6, hm5, slw_slv hN (by omega) g3, ok5, ?_⟩))
      · rw [hl] at q5
        rw [g5, if_pos q5]
      · rw [hl] at q5
        rw [g5, if_neg q5]
    have v37 : ct2 37 (n % (sr σ * sc σ)) = s' (n % (sr σ * sc σ)) := g2 _ (by omega)
    refine b167_90 (nI_ne0 (by omega) (by omega)) (j111 := n % (sr σ * sc σ)) ⟨by rw [e1, nI_add, Nat.zero_add], by omega, by decide⟩ (fun q5 => ?_) (fun q5 => ?_)
    · rw [e2, v37] at q5
      rw [e1, e2]
      refine last ct2 s' _ g2 g1 ?_
      unfold slw; rw [if_pos q5]
    · rw [e2, v37] at q5
      rw [e1, e2]
      refine b167_117 (e138 rfl (by omega)) (last _ _ _ (mT_pl g2 (by omega)) (fun b hb => by rw [u2_n hb, u2_n hb, g1 b hb]) ?_)
      unfold slw; rw [if_neg q5]
  · rintro _ ct2 ⟨a, b, s, s', l7, l8, l9, l10, l11, l12, rfl, g1, g2, g3, g4, g5⟩
    rw [zfor_end] at g5
    refine b167_46 (fun _ => ?_) (fun z => absurd ((zle (by omega) (by omega)).2 (Nat.le_refl _)) z)
    rw [g5]
    exact b167_194 (fun q5 => b167_198 (zQ_of ⟨by rw [if_pos q5], PM_look ha g1⟩)) (fun q5 => b167_203 (zQ_of ⟨by rw [if_neg q5], PM_look ha g1⟩))
end
