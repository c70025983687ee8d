/-! The reference: its calls that change the town. -/
def sgr (n : Int32) (s : Nat → Int32) : Nat → Int32 := fun j => if 36 ≤ j ∧ j < 72 ∧ s (j - 36) = nI 5 then s j + n else s j
/-- behind a call: the reference stands for σ', nothing else is touched -/
def PM (σ' : zM) (D : zD) (ct : zM) (D' : zD) (ct' : zM) : Prop := MA σ' ct' ∧ (∀ b, ¬ mRow b → ct' b = ct b) ∧ zDm D = D'
theorem MA.mp {σ ct : zM} (h : MA σ ct) : MP σ ct := h.1
theorem MA.mt {σ ct : zM} (h : MA σ ct) : mT ct 36 (σ 3) := h.2.1
theorem in_lt {x : Int32} {n : Nat} (hn : n < 1000000) : (nI 0 ≤ x ∧ x ≤ nI n) ↔ sIn (n + 1) x = true := by
  rw [← in_sIn (by omega) (by omega), pk_sub (by omega), Nat.add_sub_cancel]
/-- rows of the reference that only look -/
theorem MA.look {σ ct ct' : zM} (h : MA σ ct) (k : ∀ b, b ≠ 37 → ct' b = ct b) : MA σ ct' := by
  unfold MA at *
  rw [k 33 (by decide), k 34 (by decide), k 36 (by decide), k 38 (by decide), k 39 (by decide), k 40 (by decide), k 41 (by decide)]
  exact h
theorem PM_look {σ ct ct' : zM} {D : zD} (h : MA σ ct) (k : ∀ b, b ≠ 37 → ct' b = ct b) : PM σ D ct (zDm D) ct' := ⟨h.look k, fun b hb => k b (by unfold mRow at hb; omega), rfl⟩
theorem PM_0 {σ ct : zM} {D : zD} (h : MA σ ct) : PM σ D ct (zDm D) ct := ⟨h, fun _ _ => rfl, rfl⟩
theorem MA.now {σ ct ct' : zM} {s : Nat → Int32} (h : MA σ ct) (hm : mT ct' 36 s) (k : ∀ b, b ≠ 36 → ct' b = ct b) : MA (sNow σ s) ct' := by
  obtain ⟨a1, a2, a3, a4, a5, a6, a7⟩ := h
  refine ⟨?_, hm, ?_, ?_, ?_, ?_, ?_⟩
  · rw [k 34 (by decide), sNow_n (by decide), sNow_n (by decide), sNow_n (by decide)]; exact a1
  · rw [k 33 (by decide), k 38 (by decide), sNow_n (by decide)]
    exact ⟨a3.1, fun i hi j hj => by rw [sNow_n (by omega)]; exact a3.2 i hi j hj⟩
  · rw [k 33 (by decide), k 39 (by decide), sNow_n (by decide)]
    exact ⟨a4.1, fun i hi j hj => by rw [sNow_n (by omega)]; exact a4.2 i hi j hj⟩
  · rw [k 33 (by decide), k 40 (by decide), sNow_n (by decide), sNow_n (by decide)]; exact a5
  · rw [k 33 (by decide), sNow_n (by decide)]; exact a6
  · rw [k 41 (by decide), sNow_n (by decide)]; exact a7
section
variable {X : Nat × (Nat → Int32)} {D : zD} {ct σ : zM} {d a : Nat} {s : Nat → Int32}
theorem e106 {a0 a2 n0 n2 i j m : Nat} (h0 : zsh (zDm D) a0 = (10, n0)) (h2 : zsh (zDm D) a2 = (10, n2)) (hne : a0 ≠ a2) (hi : i + m ≤ n0) (hj : j + m ≤ n2) (l0 : n0 ≤ 1000) (l2 : n2 ≤ 1000) : CE X (d + 1) 106 [.ref a0, .int (nI i), .ref a2, .int (nI j), .int (nI m)] (zDm D) ct (fun v D' ct' => v = none ∧ zDm D = D' ∧ (∀ b, b ≠ a2 → ct' b = ct b) ∧ ∀ k, ct' a2 k = if j ≤ k ∧ k < j + m then ct a0 (i + (k - j)) else ct a2 k) := by
  refine CE_of (Nat.le_of_ble_eq_true rfl) ?_
  refine b106_0 h0 h2 ?_
  refine z_loop0 m (fun x ls ct1 => ls = [.ref a0, .int (nI i), .ref a2, .int (nI j), .int (nI m), .int (nI x)] ∧ (∀ b, b ≠ a2 → ct1 b = ct b) ∧ ∀ k, ct1 a2 k = if j ≤ k ∧ k < j + x then ct a0 (i + (k - j)) else ct a2 k) ⟨rfl, fun _ _ => rfl, fun k => by rw [if_neg (by omega)]⟩ ?_ ?_
  · rintro x _ ct1 hx ⟨rfl, g1, g2⟩ ih
    refine b106_3 h0 h2 (fun z => ?_) (fun _ => ?_)
    · rw [zle (by omega) (by omega)] at z; omega
    refine b106_10 h0 h2 (j20 := i + x) ⟨by rw [nI_add], by omega, l0⟩ (j21 := j + x) ⟨by rw [nI_add], by omega, l2⟩ (ih _ _ ⟨by rw [nI_add], fun b hb => by rw [u2_n hb, g1 b hb], fun k => ?_⟩)
    rw [u2_r]
    by_cases e : k = j + x
    · subst e
      rw [pk_us, g1 a0 hne, if_pos (by omega), show i + (j + x - j) = i + x by omega]
    · rw [pk_un e, g2 k]
      by_cases q : j ≤ k ∧ k < j + x
      · rw [if_pos q, if_pos (by omega)]
      · rw [if_neg q, if_neg (by omega)]
  · rintro _ ct1 ⟨rfl, g1, g2⟩
    exact b106_3 h0 h2 (fun _ => b106_28 h0 h2 (zQ_of ⟨rfl, rfl, g1, g2⟩)) (fun z => absurd ((zle (by omega) (by omega)).2 (Nat.le_refl _)) z)
theorem e149 (hm : mT ct 36 s) : CE X (d + 2) 149 [.ref 33] (zDm D) ct (fun v D' ct' => v = none ∧ zDm D = D' ∧ (∀ b, b ≠ 37 → ct' b = ct b) ∧ mT ct' 37 s) := by
  refine CE_of (Nat.le_of_ble_eq_true rfl) ?_
  obtain ⟨_, _, ct1, he, rfl, rfl, g1, g2⟩ := e106 (X := X) (D := D) (ct := ct) (d := d) (a0 := 36) (a2 := 37) (n0 := 111) (n2 := 111) (i := 0) (j := 0) (m := 111) rfl rfl (by decide) (by decide) (by decide) (by decide) (by decide)
  refine b149_0 he (b149_15 (zQ_of ⟨rfl, rfl, g1, fun j hj => ?_⟩))
  rw [g2, if_pos (by omega), show 0 + (j - 0) = j by omega]
  exact hm j hj
theorem e138 {x : Nat} {k : Int32} (ha : zsh (zDm D) a = (10, 111)) (hx : x < 36) : EV X (d + 1) 138 [.ref a, .int (nI x), .int k] (mk (zDm D) ct) none (mk (zDm D) (u2 (u2 ct a x k) a (36 + x) (nI 0))) := by
  refine EV_intro (Nat.le_of_ble_eq_true rfl) (b138_0 ha (j5 := x) ⟨by rw [nI_add, Nat.zero_add], by omega, by decide⟩ (j12 := 36 + x) ⟨by rw [nI_add], by omega, by decide⟩ ⟨rfl, rfl⟩)
theorem mT_pl {x : Nat} {k old : Int32} (hm : mT ct a s) (hx : x < 36) : mT (u2 (u2 ct a x k) a (36 + x) old) a (spl x k old s) := by
  intro j hj
  rw [u2_r, u2_r]
  by_cases e1 : j = x
  · subst e1; rw [pk_un (by omega), pk_us, spl_j]
  by_cases e2 : j = 36 + x
  · subst e2; rw [pk_us, spl_a]
  rw [pk_un e2, pk_un e1, spl_n e1 e2]
  exact hm j hj
theorem e145 {n : Int32} (ha : zsh (zDm D) a = (10, 111)) (hm : mT ct a s) : CE X (d + 1) 145 [.ref a, .int n] (zDm D) ct (fun v D' ct' => v = none ∧ zDm D = D' ∧ (∀ b, b ≠ a → ct' b = ct b) ∧ mT ct' a (sgr n s)) := by
  refine CE_of (Nat.le_of_ble_eq_true rfl) ?_
  refine b145_0 ha ?_
  refine z_loop0 36 (fun i ls ct1 => ls = [.ref a, .int n, .int (nI i)] ∧ (∀ b, b ≠ a → ct1 b = ct b) ∧ ∀ j, j < 111 → ct1 a j = if 36 ≤ j ∧ j < 36 + i ∧ s (j - 36) = nI 5 then s j + n else s j) ⟨rfl, fun _ _ => rfl, fun j hj => by rw [if_neg (by omega)]; exact hm j hj⟩ ?_ ?_
  · rintro i _ ct1 hi ⟨rfl, g1, g2⟩ ih
    have z1 : zix (nI 36 + nI i) (36 + i) 111 := ⟨by rw [nI_add], by omega, by decide⟩
    have v1 : ct1 a (36 + i) = s (36 + i) := by rw [g2 _ (by omega), if_neg (by omega)]
    have v2 : ct1 a i = s i := by rw [g2 _ (by omega), if_neg (by omega)]
    refine b145_2 ha (fun z => ?_) (fun _ => ?_)
    · rw [zle (by omega) (by omega)] at z; omega
    refine b145_8 ha z1 (j19 := i) ⟨by rw [nI_add, Nat.zero_add], by omega, by decide⟩ (fun q => ?_) (fun q => ?_)
    · rw [v2] at q
      refine b145_24 ha ha z1 (ih _ _ ⟨by rw [nI_add], fun b hb => by rw [u2_n hb, g1 b hb], fun j hj => ?_⟩)
      rw [u2_r, v1]
      by_cases e : j = 36 + i
      · subst e
        rw [pk_us, if_pos ⟨by omega, by omega, by rw [show 36 + i - 36 = i by omega]; exact q⟩]
      · rw [pk_un e, g2 j hj]
        have : (36 ≤ j ∧ j < 36 + i ∧ s (j - 36) = nI 5) ↔ (36 ≤ j ∧ j < 36 + (i + 1) ∧ s (j - 36) = nI 5) := ⟨fun z => ⟨z.1, by omega, z.2.2⟩, fun z => ⟨z.1, by omega, z.2.2⟩⟩
        simp only [this]
    · rw [v2] at q
      refine b145_28 ha ha z1 (ih _ _ ⟨by rw [nI_add], fun b hb => by rw [u2_n hb, g1 b hb], fun j hj => ?_⟩)
      rw [u2_r, v1]
      have z0 : s (36 + i) + nI 0 = s (36 + i) := Int32.add_zero _
      by_cases e : j = 36 + i
      · subst e
        rw [pk_us, z0, if_neg (fun z => q (by have := z.2.2; rwa [show 36 + i - 36 = i by omega] at this))]
      · rw [pk_un e, g2 j hj]
        have : (36 ≤ j ∧ j < 36 + i ∧ s (j - 36) = nI 5) ↔ (36 ≤ j ∧ j < 36 + (i + 1) ∧ s (j - 36) = nI 5) := ⟨fun z => ⟨z.1, by omega, z.2.2⟩, fun z => ⟨z.1, by omega, z.2.2⟩⟩
        simp only [this]
  · rintro _ ct1 ⟨rfl, g1, g2⟩
    exact b145_2 ha (fun _ => b145_37 ha (zQ_of ⟨rfl, rfl, g1, fun j hj => g2 j hj⟩)) (fun z => absurd ((zle (by omega) (by omega)).2 (Nat.le_refl _)) z)
theorem MA_rem {ct' : zM} (h : WF σ) (ha : MA σ ct) (k : ∀ b, b ≠ 33 → b ≠ 38 → ct' b = ct b) (k33 : ∀ j, j ≠ 5 → ct' 33 j = ct 33 j) (k5 : ct' 33 5 = nI (if su σ < 8 then su σ + 1 else su σ))
    (k38 : ∀ i, i < (if su σ < 8 then su σ + 1 else su σ) → ∀ j, j < 111 → ct' 38 (111 * ((if su σ < 8 then su σ + 1 else su σ) - 1 - i) + j) = if i = 0 then σ 3 j else σ (10 + (i - 1)) j) : MA (sRem σ) ct' := by
  obtain ⟨a1, a2, a3, a4, a5, a6, a7⟩ := ha
  have r0 : ∀ j, j ≠ 3 → sRem σ 0 j = σ 0 j := fun j hj => by
    show (if (0 : Nat) = 0 then upd (σ 0) 3 _ else _) j = _
    rw [if_pos rfl, pk_un hj]
  have rn : ∀ b, b ≠ 0 → ¬ (10 ≤ b ∧ b < 18) → sRem σ b = σ b := fun b h1 h2 => by
    unfold sRem
    rw [if_neg h1, if_neg (by omega), if_neg (by omega)]
  have e3 : su (sRem σ) = if su σ < 8 then su σ + 1 else su σ := su_rem h
  have e4 : sk (sRem σ) = sk σ := by unfold sk; rw [r0 4 (by decide)]
  have e5 : sf (sRem σ) = sf σ := by unfold sf; rw [r0 5 (by decide)]
  have e6 : sn (sRem σ) = sn σ := by unfold sn; rw [r0 6 (by decide)]
  refine ⟨?_, ?_, ⟨?_, ?_⟩, ?_, ?_, ?_, ?_⟩
  · rw [k 34 (by decide) (by decide), r0 0 (by decide), r0 1 (by decide), r0 2 (by decide), rn 1 (by decide) (by decide), rn 2 (by decide) (by decide)]; exact a1
  · rw [k 36 (by decide) (by decide), rn 3 (by decide) (by decide)]; exact a2
  · rw [k5]
    show _ = (if (0 : Nat) = 0 then upd (σ 0) 3 _ else _) 3
    rw [if_pos rfl, pk_us]
  · intro i hi j hj
    rw [e3] at hi ⊢
    rw [k38 i hi j hj, sRem_p (by have := h.up; split at hi <;> omega)]
    unfold spu
    split <;> rfl
  · rw [k 39 (by decide) (by decide), k33 7 (by decide), r0 4 (by decide), e4]
    exact ⟨a4.1, fun i hi j hj => by rw [rn _ (by omega) (by omega)]; exact a4.2 i hi j hj⟩
  · rw [k33 9 (by decide), k 40 (by decide) (by decide), r0 6 (by decide), e6, rn 4 (by decide) (by decide)]; exact a5
  · rw [k33 11 (by decide), r0 5 (by decide)]; exact a6
  · rw [k 41 (by decide) (by decide), e5, rn 5 (by decide) (by decide)]; exact a7
theorem e137 (h : WF σ) (ha : MA σ ct) : CE X (d + 2) 137 [.ref 33] (zDm D) ct (fun v D' ct' => v = none ∧ zDm D = D' ∧ MA (sRem σ) ct' ∧ ∀ b, b ≠ 33 → b ≠ 38 → ct' b = ct b) := by
  have hu := h.up
  have u5 : ct 33 5 = nI (su σ) := ha.2.2.1.1.trans h.2.2.2.1.1
  have hp := ha.2.2.1.2
  have hm := ha.mt
  refine CE_of (Nat.le_of_ble_eq_true rfl) ?_
  refine b137_0 (fun q => b137_9 ?_) (fun q => ?_)
  · rw [u5, zeq (by omega) (by omega)] at q
    refine z_loop0 777 (fun i ls ct1 => ls = [.ref 33, .int (nI i)] ∧ (∀ b, b ≠ 38 → ct1 b = ct b) ∧ ∀ k, ct1 38 k = if k < i then ct 38 (k + 111) else ct 38 k) ⟨rfl, fun _ _ => rfl, fun k => by rw [if_neg (by omega)]⟩ ?_ ?_
    · rintro i _ ct1 hi ⟨rfl, g1, g2⟩ ih
      refine b137_11 (fun z => ?_) (fun _ => b137_18 (j31 := i + 111) ⟨by rw [nI_add], by omega, by decide⟩ (zix_nI (j := i) (by omega) (by decide)) (ih _ _ ⟨by rw [nI_add], fun b hb => by rw [u2_n hb, g1 b hb], fun k => ?_⟩))
      · rw [zle (by omega) (by omega)] at z; omega
      rw [u2_r]
      by_cases e : k = i
      · subst e; rw [pk_us, g2, if_neg (by omega), if_pos (by omega)]
      · rw [pk_un e, g2 k]
        by_cases q : k < i
        · rw [if_pos q, if_pos (by omega)]
        · rw [if_neg q, if_neg (by omega)]
    · rintro _ ct1 ⟨rfl, g1, g2⟩
      refine b137_11 (fun _ => ?_) (fun z => absurd ((zle (by omega) (by omega)).2 (Nat.le_refl _)) z)
      have t5 : ct1 33 5 = nI 8 := by rw [g1 33 (by decide), u5, q]
      obtain ⟨_, _, ct2, he, rfl, rfl, k1, k2⟩ := e106 (X := X) (D := D) (ct := u2 ct1 33 5 (nI 7)) (d := d) (a0 := 36) (a2 := 38) (n0 := 111) (n2 := 888) (i := 0) (j := 777) (m := 111) rfl rfl (by decide) (by decide) (by decide) (by decide) (by decide)
      have e7 : ct1 33 5 - nI 1 = nI 7 := by rw [t5, pk_sub (by decide)]
      refine b137_39 (by rw [e7, pk_mul]; exact he) ?_
      have s5 : ct2 33 5 = nI 7 := by rw [k1 33 (by decide), u2_r, pk_us]
      refine b137_70 (zQ_of ⟨rfl, rfl, MA_rem h ha (fun b h1 h2 => by rw [u2_n h1, k1 b h2, u2_n h1, g1 b h2]) (fun j hj => by rw [u2_r, pk_un hj, k1 33 (by decide), u2_r, pk_un hj, g1 33 (by decide)]) ?_ ?_, fun b h1 h2 => by rw [u2_n h1, k1 b h2, u2_n h1, g1 b h2]⟩)
      · rw [u2_r, pk_us, s5, nI_add, if_neg (by omega), q]
      · intro i hi j hj
        rw [if_neg (by omega), q] at hi ⊢
        rw [u2_n (by decide), k2]
        by_cases e : i = 0
        · subst e
          rw [if_pos rfl, if_pos (by omega), u2_n (by decide), g1 36 (by decide), show 0 + (111 * (8 - 1 - 0) + j - 777) = j by omega]
          exact hm j hj
        · rw [if_neg e, if_neg (by omega), u2_n (by decide), g2, if_pos (by omega)]
          have := hp (i - 1) (by omega) j hj
          rw [q] at this
          rw [show 111 * (8 - 1 - i) + j + 111 = 111 * (8 - 1 - (i - 1)) + j by omega]
          exact this
  · rw [u5, zeq (by omega) (by omega)] at q
    obtain ⟨_, _, ct2, he, rfl, rfl, k1, k2⟩ := e106 (X := X) (D := D) (ct := ct) (d := d) (a0 := 36) (a2 := 38) (n0 := 111) (n2 := 888) (i := 0) (j := 111 * su σ) (m := 111) rfl rfl (by decide) (by decide) (by omega) (by decide) (by decide)
    refine b137_49 (by rw [u5, pk_mul]; exact he) ?_
    have s5 : ct2 33 5 = nI (su σ) := by rw [k1 33 (by decide), u5]
    refine b137_70 (zQ_of ⟨rfl, rfl, MA_rem h ha (fun b h1 h2 => by rw [u2_n h1, k1 b h2]) (fun j hj => by rw [u2_r, pk_un hj, k1 33 (by decide)]) ?_ ?_, fun b h1 h2 => by rw [u2_n h1, k1 b h2]⟩)
    · rw [u2_r, pk_us, s5, nI_add, if_pos (by omega)]
    · intro i hi j hj
      rw [if_pos (by omega)] at hi ⊢
      rw [u2_n (by decide), k2]
      by_cases e : i = 0
      · subst e
        rw [if_pos rfl, if_pos (by omega), show 0 + (111 * (su σ + 1 - 1 - 0) + j - 111 * su σ) = j by omega]
        exact hm j hj
      · rw [if_neg e, if_neg (by omega)]
        have := hp (i - 1) (by omega) j hj
        rw [show 111 * (su σ + 1 - 1 - i) + j = 111 * (su σ - 1 - (i - 1)) + j by omega]
        exact this
/-- behind remember, and a change of the town -/
theorem PM_ch {ct1 ct2 : zM} (ha : MA (sRem σ) ct1) (k1 : ∀ b, b ≠ 33 → b ≠ 38 → ct1 b = ct b) (hm : mT ct2 36 s) (k2 : ∀ b, b ≠ 36 → ct2 b = ct1 b) : PM (sNow (sRem σ) s) D ct (zDm D) ct2 :=
  ⟨ha.now hm k2, fun b hb => by rw [k2 b (by unfold mRow at hb; omega), k1 b (by unfold mRow at hb; omega) (by unfold mRow at hb; omega)], rfl⟩
theorem k136 {x : Int32} (h : WF σ) (ha : MA σ ct) : CE X (d + 3) 136 [.ref 33, .int x] (zDm D) ct (fun v D' ct' => v = some (.int (g56 σ x).1) ∧ PM (g56 σ x).2 D ct D' ct') := by
  have hN := h.N
  refine CE_of (Nat.le_of_ble_eq_true rfl) (b136_0 (e124 h ha.mp) (b136_5 (fun q => b136_8 (zQ_of ?_)) (fun q => ?_)))
  · rw [yn_0] at q
    have e : g56 σ x = ((-1), σ) := by unfold g56; rw [if_neg q]
    rw [e]; exact ⟨rfl, PM_0 ha⟩
  rw [yn_0, Classical.not_not] at q
  obtain ⟨j, hj, rfl⟩ := sIn_of q (by omega)
  have hc : (nI j).toNatClampNeg = j := nI_clamp (by omega)
  have e34 : ct 34 (9 + j) = σ 1 j := ha.mp.2.2.2.1 j (by omega)
  have e36 : ct 36 j = σ 3 j := ha.mt j (by omega)
  refine b136_10 (j18 := 9 + j) ⟨by rw [nI_add], by omega, by decide⟩ (j27 := j) ⟨by rw [nI_add, Nat.zero_add], by omega, by decide⟩ (fun q2 => b136_32 (zQ_of ?_)) (fun q2 => ?_)
  · rw [e34, e36] at q2
    have e : g56 σ (nI j) = ((-2), σ) := by unfold g56; rw [if_pos q, hc, if_pos q2]
    rw [e]; exact ⟨rfl, PM_0 ha⟩
  rw [e34, e36] at q2
  obtain ⟨_, _, ct1, he, rfl, rfl, k1, k2⟩ := e137 (X := X) (D := D) (d := d) h ha
  rw [e34]
  have hm1 : mT ct1 36 (σ 3) := ha.mt.k (k2 36 (by decide) (by decide))
  have e : g56 σ (nI j) = (nI (zz (σ 1 j)), sNow (sRem σ) (spl j (σ 1 j) (nI 0) (σ 3))) := by unfold g56; rw [if_pos q, hc, if_neg q2]
  refine b136_35 he (b136_39 (e138 rfl (by omega)) (b136_48 (e130 (h.sh1 j (by omega))) (b136_52 (zQ_of ?_))))
  rw [e]
  exact ⟨rfl, PM_ch k1 k2 (mT_pl hm1 (by omega)) fun b hb => by rw [u2_n hb, u2_n hb]⟩
theorem k139 {x w : Int32} (h : WF σ) (ha : MA σ ct) : CE X (d + 3) 139 [.ref 33, .int x, .int w] (zDm D) ct (fun v D' ct' => v = some (.int (g58 σ x w).1) ∧ PM (g58 σ x w).2 D ct D' ct') := by
  have hN := h.N
  have bad : ¬ (sIn (sr σ * sc σ) x = true ∧ sIn 8 w = true) → some (Value.int (-1)) = some (.int (g58 σ x w).1) ∧ PM (g58 σ x w).2 D ct (zDm D) ct := fun q => by
    have e : g58 σ x w = ((-1), σ) := by unfold g58; rw [if_neg q]
    rw [e]; exact ⟨rfl, PM_0 ha⟩
  refine CE_of (Nat.le_of_ble_eq_true rfl) (b139_0 (e124 h ha.mp) (b139_5 (fun q => b139_20 (zQ_of (bad ?_))) (fun q => ?_)))
  · rw [yn_0] at q; exact fun z => q z.1
  rw [yn_0, Classical.not_not] at q
  refine b139_8 (e108n (by decide) (by decide)) (b139_17 (fun q2 => b139_20 (zQ_of (bad ?_))) (fun q2 => ?_))
  · rw [yn_0, in_lt (by decide)] at q2; exact fun z => q2 z.2
  rw [yn_0, in_lt (by decide), Classical.not_not] at q2
  obtain ⟨j, hj, rfl⟩ := sIn_of q (by omega)
  have hc : (nI j).toNatClampNeg = j := nI_clamp (by omega)
  have e36 : ct 36 j = σ 3 j := ha.mt j (by omega)
  refine b139_22 (j29 := j) ⟨by rw [nI_add, Nat.zero_add], by omega, by decide⟩ (fun q3 => b139_36 (zQ_of ?_)) (fun q3 => ?_)
  · rw [e36] at q3
    have e : g58 σ (nI j) w = ((-2), σ) := by unfold g58; rw [if_pos ⟨q, q2⟩, hc, if_pos q3]
    rw [e]; exact ⟨rfl, PM_0 ha⟩
  rw [e36] at q3
  obtain ⟨_, _, ct1, he, rfl, rfl, k1, k2⟩ := e137 (X := X) (D := D) (d := d) h ha
  rw [e36]
  have hm1 : mT ct1 36 (σ 3) := ha.mt.k (k2 36 (by decide) (by decide))
  have e : g58 σ (nI j) w = (σ 3 j, sNow (sRem σ) (spl j w (nI 0) (σ 3))) := by unfold g58; rw [if_pos ⟨q, q2⟩, hc, if_neg q3]
  refine b139_39 he (b139_43 (e138 rfl (by omega)) (b139_52 (zQ_of ?_)))
  rw [e]
  exact ⟨rfl, PM_ch k1 k2 (mT_pl hm1 (by omega)) fun b hb => by rw [u2_n hb, u2_n hb]⟩
theorem k140 (h : WF σ) (ha : MA σ ct) : CE X (d + 3) 140 [.ref 33] (zDm D) ct (fun v D' ct' => v = some (.int (g59 σ).1) ∧ PM (g59 σ).2 D ct D' ct') := by
  obtain ⟨_, _, ct1, he, rfl, rfl, k1, k2⟩ := e137 (X := X) (D := D) (d := d) h ha
  have hm1 : mT ct1 36 (σ 3) := ha.mt.k (k2 36 (by decide) (by decide))
  refine CE_of (Nat.le_of_ble_eq_true rfl) (b140_0 he (b140_4 ?_))
  refine z_loop0 36 (fun i ls ct2 => (∃ n, ls = [.ref 33, .int (nI n), .int (nI i)] ∧ fgr (σ 3) = zfor (fun x n => if σ 3 (36 + x) < nI 3 then n else n + 1) (36 - i) i n) ∧ (∀ b, b ≠ 36 → ct2 b = ct1 b) ∧ ∀ j, j < 111 → ct2 36 j = if 36 ≤ j ∧ j < 36 + i then nI 0 else σ 3 j) ⟨⟨0, rfl, rfl⟩, fun _ _ => rfl, fun j hj => by rw [if_neg (by omega)]; exact hm1 j hj⟩ ?_ ?_
  · rintro i _ ct2 hi ⟨⟨n, rfl, hn⟩, g1, g2⟩ ih
    have z1 : zix (nI 36 + nI i) (36 + i) 111 := ⟨by rw [nI_add], by omega, by decide⟩
    rw [zfor_step hi] at hn
    refine b140_8 (fun z => ?_) (fun _ => ?_)
    · rw [zle (by omega) (by omega)] at z; omega
    have fr : ∀ j, j < 111 → u2 ct2 36 (36 + i) (nI 0) 36 j = if 36 ≤ j ∧ j < 36 + (i + 1) then nI 0 else σ 3 j := fun j hj => by
      rw [u2_r]
      by_cases e : j = 36 + i
      · subst e; rw [pk_us, if_pos (by omega)]
      · rw [pk_un e, g2 j hj]
        by_cases q : 36 ≤ j ∧ j < 36 + i
        · rw [if_pos q, if_pos (by omega)]
        · rw [if_neg q, if_neg (by omega)]
    have v : ct2 36 (36 + i) = σ 3 (36 + i) := by rw [g2 _ (by omega), if_neg (by omega)]
    refine b140_14 z1 (fun q => b140_32 z1 (ih _ _ ⟨⟨n, by rw [nI_add, nI_add]; rfl, ?_⟩, fun b hb => by rw [u2_n hb, g1 b hb], fr⟩)) (fun q => b140_28 z1 (ih _ _ ⟨⟨n + 1, by rw [nI_add, nI_add], ?_⟩, fun b hb => by rw [u2_n hb, g1 b hb], fr⟩))
    · rw [v, ← lt3] at q
      rw [hn, if_pos q]
    · rw [v, ← lt3] at q
      rw [hn, if_neg q]
  · rintro _ ct2 ⟨⟨n, rfl, hn⟩, g1, g2⟩
    refine b140_8 (fun _ => b140_51 (zQ_of ⟨?_, PM_ch k1 k2 (fun j hj => ?_) g1⟩)) (fun z => absurd ((zle (by omega) (by omega)).2 (Nat.le_refl _)) z)
    · rw [zfor_end] at hn
      unfold g59
      rw [hn]
    · rw [g2 j hj]; rfl
theorem k141 {x : Int32} (h : WF σ) (ha : MA σ ct) : CE X (d + 3) 141 [.ref 33, .int x] (zDm D) ct (fun v D' ct' => v = some (.int (g61 σ x).1) ∧ PM (g61 σ x).2 D ct D' ct') := by
  have hN := h.N
  refine CE_of (Nat.le_of_ble_eq_true rfl) (b141_0 (e124 h ha.mp) (b141_5 (fun q => b141_8 (zQ_of ?_)) (fun q => ?_)))
  · rw [yn_0] at q
    have e : g61 σ x = ((-1), σ) := by unfold g61; rw [if_neg q]
    rw [e]; exact ⟨rfl, PM_0 ha⟩
  rw [yn_0, Classical.not_not] at q
  obtain ⟨j, hj, rfl⟩ := sIn_of q (by omega)
  have hc : (nI j).toNatClampNeg = j := nI_clamp (by omega)
  obtain ⟨_, _, ct1, he, rfl, rfl, k1, k2⟩ := e137 (X := X) (D := D) (d := d) h ha
  have hm1 : mT ct1 36 (σ 3) := ha.mt.k (k2 36 (by decide) (by decide))
  have zx : zix (nI 72 + nI j) (72 + j) 111 := ⟨by rw [nI_add], by omega, by decide⟩
  have e : g61 σ (nI j) = ((if σ 3 (72 + j) = nI 0 then nI 1 else nI 0), sNow (sRem σ) (shu j (σ 3))) := by unfold g61; rw [if_pos q, hc]
  refine b141_10 he (b141_14 zx zx zx (zQ_of ?_))
  have v : nI 1 - ct1 36 (72 + j) = if σ 3 (72 + j) = nI 0 then nI 1 else nI 0 := by
    rw [hm1 _ (by omega)]
    rcases (h.now.1 j (by omega)).2 with z | z
    · rw [z, if_pos rfl]; decide
    · rw [z, if_neg (by decide)]; decide
  rw [e, v, u2_r, pk_us]
  refine ⟨rfl, PM_ch k1 k2 (fun i hi => ?_) fun b hb => u2_n hb⟩
  rw [u2_r]
  unfold shu
  by_cases e : i = 72 + j
  · subst e; rw [pk_us, pk_us]
  · rw [pk_un e, pk_un e]; exact hm1 i hi
theorem k142 {w : Int32} (h : WF σ) (ha : MA σ ct) : CE X (d + 3) 142 [.ref 33, .int w] (zDm D) ct (fun v D' ct' => v = some (.int (g62 σ w).1) ∧ PM (g62 σ w).2 D ct D' ct') := by
  refine CE_of (Nat.le_of_ble_eq_true rfl) (b142_0 (e108n (by decide) (by decide)) (b142_9 (fun q => b142_12 (zQ_of ?_)) (fun q => ?_)))
  · rw [yn_0, in_lt (by decide)] at q
    have e : g62 σ w = ((-1), σ) := by unfold g62; rw [if_neg q]
    rw [e]; exact ⟨rfl, PM_0 ha⟩
  rw [yn_0, in_lt (by decide), Classical.not_not] at q
  obtain ⟨_, _, ct1, he, rfl, rfl, k1, k2⟩ := e137 (X := X) (D := D) (d := d) h ha
  have hm1 : mT ct1 36 (σ 3) := ha.mt.k (k2 36 (by decide) (by decide))
  have e : g62 σ w = (σ 3 108, sNow (sRem σ) (swd w (σ 3))) := by unfold g62; rw [if_pos q]
  refine b142_14 he (b142_18 (zQ_of ?_))
  rw [e, hm1 108 (by decide)]
  refine ⟨rfl, PM_ch k1 k2 (fun i hi => ?_) fun b hb => u2_n hb⟩
  rw [u2_r]
  unfold swd
  by_cases e : i = 108
  · subst e; rw [pk_us, pk_us]
  · rw [pk_un e, pk_un e]; exact hm1 i hi
theorem k143 {x : Int32} (h : WF σ) (ha : MA σ ct) : CE X (d + 3) 143 [.ref 33, .int x] (zDm D) ct (fun v D' ct' => v = some (.int (g63 σ x).1) ∧ PM (g63 σ x).2 D ct D' ct') := by
  refine CE_of (Nat.le_of_ble_eq_true rfl) (b143_0 (e124 h ha.mp) (b143_5 (fun q => b143_8 (zQ_of ?_)) (fun q => ?_)))
  · rw [yn_0] at q
    have e : g63 σ x = ((-1), σ) := by unfold g63; rw [if_neg q]
    rw [e]; exact ⟨rfl, PM_0 ha⟩
  rw [yn_0, Classical.not_not] at q
  obtain ⟨_, _, ct1, he, rfl, rfl, k1, k2⟩ := e137 (X := X) (D := D) (d := d) h ha
  have hm1 : mT ct1 36 (σ 3) := ha.mt.k (k2 36 (by decide) (by decide))
  have e : g63 σ x = (σ 3 109, sNow (sRem σ) (sey x (σ 3))) := by unfold g63; rw [if_pos q]
  refine b143_10 he (b143_14 (zQ_of ?_))
  rw [e, hm1 109 (by decide)]
  refine ⟨rfl, PM_ch k1 k2 (fun i hi => ?_) fun b hb => u2_n hb⟩
  rw [u2_r]
  unfold sey
  by_cases e : i = 109
  · subst e; rw [pk_us, pk_us]
  · rw [pk_un e, pk_un e]; exact hm1 i hi
theorem k144 {n : Int32} (h : WF σ) (ha : MA σ ct) : CE X (d + 3) 144 [.ref 33, .int n] (zDm D) ct (fun v D' ct' => v = some (.int (g64 σ n).1) ∧ PM (g64 σ n).2 D ct D' ct') := by
  refine CE_of (Nat.le_of_ble_eq_true rfl) (b144_0 (e108n (by decide) (by decide)) (b144_9 (fun q => b144_12 (zQ_of ?_)) (fun q => ?_)))
  · rw [yn_0] at q
    have e : g64 σ n = ((-1), σ) := by unfold g64; rw [if_neg q]
    rw [e]; exact ⟨rfl, PM_0 ha⟩
  rw [yn_0, Classical.not_not] at q
  obtain ⟨_, _, ct1, he, rfl, rfl, k1, k2⟩ := e137 (X := X) (D := D) (d := d) h ha
  have hm1 : mT ct1 36 (σ 3) := ha.mt.k (k2 36 (by decide) (by decide))
  obtain ⟨_, _, ct2, he2, rfl, rfl, k3, k4⟩ := e145 (X := X) (D := D) (d := d + 1) (ct := ct1) (a := 36) (n := n) rfl hm1
  have e : g64 σ n = (sgo n (σ 3) 110, sNow (sRem σ) (sgo n (σ 3))) := by unfold g64; rw [if_pos q]
  have v : ct2 36 110 = σ 3 110 := by rw [k4 110 (by decide)]; unfold sgr; rw [if_neg (by omega)]
  refine b144_14 he (b144_18 he2 (b144_26 (zQ_of ?_)))
  rw [e, v]
  refine ⟨rfl, PM_ch k1 k2 (fun i hi => ?_) fun b hb => by rw [u2_n hb, k3 b hb]⟩
  rw [u2_r]
  unfold sgo
  by_cases e : i = 110
  · subst e; rw [pk_us, if_pos rfl]
  · rw [pk_un e, k4 i hi, if_neg e]; rfl
theorem MA_pop {ct' : zM} (h : WF σ) (hu : 0 < su σ) (ha : MA σ ct) (k : ∀ b, b ≠ 33 → b ≠ 36 → ct' b = ct b) (k33 : ∀ j, j ≠ 5 → ct' 33 j = ct 33 j) (k5 : ct' 33 5 = nI (su σ - 1)) (hm : mT ct' 36 (σ 10)) : MA (sPop σ) ct' := by
  obtain ⟨a1, a2, a3, a4, a5, a6, a7⟩ := ha
  have hup := h.up
  have r0 : ∀ j, j ≠ 3 → sPop σ 0 j = σ 0 j := fun j hj => by
    show (if (0 : Nat) = 0 then upd (σ 0) 3 _ else _) j = _
    rw [if_pos rfl, pk_un hj]
  have rn : ∀ b, b ≠ 0 → b ≠ 3 → ¬ (10 ≤ b ∧ b < 17) → sPop σ b = σ b := fun b h1 h2 h3 => by
    unfold sPop
    rw [if_neg h1, if_neg h2, if_neg h3]
  have e3 := su_pop h
  have e4 : sk (sPop σ) = sk σ := by unfold sk; rw [r0 4 (by decide)]
  have e5 : sf (sPop σ) = sf σ := by unfold sf; rw [r0 5 (by decide)]
  have e6 : sn (sPop σ) = sn σ := by unfold sn; rw [r0 6 (by decide)]
  refine ⟨?_, hm, ⟨?_, ?_⟩, ?_, ?_, ?_, ?_⟩
  · rw [k 34 (by decide) (by decide), r0 0 (by decide), r0 1 (by decide), r0 2 (by decide), rn 1 (by decide) (by decide) (by decide), rn 2 (by decide) (by decide) (by decide)]; exact a1
  · rw [k5]
    show _ = (if (0 : Nat) = 0 then upd (σ 0) 3 _ else _) 3
    rw [if_pos rfl, pk_us]
  · intro i hi j hj
    rw [e3] at hi ⊢
    rw [k 38 (by decide) (by decide)]
    have e : sPop σ (10 + i) = σ (10 + (i + 1)) := by
      unfold sPop
      rw [if_neg (by omega), if_neg (by omega), if_pos (by omega)]
      rfl
    rw [e, show su σ - 1 - 1 - i = su σ - 1 - (i + 1) by omega]
    exact a3.2 (i + 1) (by omega) j hj
  · rw [k 39 (by decide) (by decide), k33 7 (by decide), r0 4 (by decide), e4]
    exact ⟨a4.1, fun i hi j hj => by rw [rn _ (by omega) (by omega) (by omega)]; exact a4.2 i hi j hj⟩
  · rw [k33 9 (by decide), k 40 (by decide) (by decide), r0 6 (by decide), e6, rn 4 (by decide) (by decide) (by decide)]; exact a5
  · rw [k33 11 (by decide), r0 5 (by decide)]; exact a6
  · rw [k 41 (by decide) (by decide), e5, rn 5 (by decide) (by decide) (by decide)]; exact a7
theorem k146 (h : WF σ) (ha : MA σ ct) : CE X (d + 2) 146 [.ref 33] (zDm D) ct (fun v D' ct' => v = some (.int (g66 σ).1) ∧ PM (g66 σ).2 D ct D' ct') := by
  have hu := h.up
  have u5 : ct 33 5 = nI (su σ) := ha.2.2.1.1.trans h.2.2.2.1.1
  refine CE_of (Nat.le_of_ble_eq_true rfl) (b146_0 (fun q => b146_7 (zQ_of ?_)) (fun q => ?_))
  · rw [u5, zeq (by omega) (by omega)] at q
    have e : g66 σ = ((-2), σ) := by unfold g66; rw [if_pos q]
    rw [e]; exact ⟨rfl, PM_0 ha⟩
  rw [u5, zeq (by omega) (by omega)] at q
  have e : g66 σ = (nI (su σ - 1), sPop σ) := by unfold g66; rw [if_neg q]
  have e7 : ct 33 5 - nI 1 = nI (su σ - 1) := by rw [u5, pk_sub (by omega)]
  obtain ⟨_, _, ct2, he, rfl, rfl, k1, k2⟩ := e106 (X := X) (D := D) (ct := u2 ct 33 5 (nI (su σ - 1))) (d := d) (a0 := 38) (a2 := 36) (n0 := 888) (n2 := 111) (i := 111 * (su σ - 1)) (j := 0) (m := 111) rfl rfl (by decide) (by omega) (by decide) (by decide) (by decide)
  refine b146_10 (by rw [e7, pk_mul]; exact he) (b146_41 (zQ_of ?_))
  have s5 : ct2 33 5 = nI (su σ - 1) := by rw [k1 33 (by decide), u2_r, pk_us]
  rw [e, s5]
  refine ⟨rfl, MA_pop h (by omega) ha (fun b h1 h2 => by rw [k1 b h2, u2_n h1]) (fun j hj => by rw [k1 33 (by decide), u2_r, pk_un hj]) s5 (fun j hj => ?_), fun b hb => by rw [k1 b (by unfold mRow at hb; omega), u2_n (by unfold mRow at hb; omega)], rfl⟩
  rw [k2, if_pos (by omega), u2_n (by decide)]
  have := ha.2.2.1.2 0 (by omega) j hj
  rw [show 111 * (su σ - 1) + (j - 0) = 111 * (su σ - 1 - 0) + j by omega]
  exact this
theorem k168 (h : WF σ) (ha : MA σ ct) : CE X (d + 2) 168 [.ref 33] (zDm D) ct (fun v D' ct' => v = some (.int (g98 σ).1) ∧ PM (g98 σ).2 D ct D' ct') := by
  have hu := h.kp
  have u7 : ct 33 7 = nI (sk σ) := ha.2.2.2.1.1.trans h.2.2.2.2.1.1
  refine CE_of (Nat.le_of_ble_eq_true rfl) (b168_0 (fun q => b168_8 (zQ_of ?_)) (fun q => ?_))
  · rw [u7, zeq (by omega) (by omega)] at q
    have e : g98 σ = ((-3), σ) := by unfold g98; rw [if_neg (by omega)]
    rw [e]; exact ⟨rfl, PM_0 ha⟩
  rw [u7, zeq (by omega) (by omega)] at q
  have e : g98 σ = (nI (sk σ + 1), sKeep σ) := by unfold g98; rw [if_pos (by omega)]
  obtain ⟨_, _, ct2, he, rfl, rfl, k1, k2⟩ := e106 (X := X) (D := D) (ct := ct) (d := d) (a0 := 36) (a2 := 39) (n0 := 111) (n2 := 222) (i := 0) (j := 111 * sk σ) (m := 111) rfl rfl (by decide) (by decide) (by omega) (by decide) (by decide)
  refine b168_11 (by rw [u7, pk_mul]; exact he) (b168_32 (zQ_of ?_))
  have s7 : ct2 33 7 = nI (sk σ) := by rw [k1 33 (by decide), u7]
  rw [e, s7, nI_add]
  show some (Value.int (nI (sk σ + 1))) = some (Value.int (nI (sk σ + 1))) ∧ PM (sKeep σ) D ct (zDm D) _
  have r0 : ∀ j, j ≠ 4 → sKeep σ 0 j = σ 0 j := fun j hj => by
    show (if (0 : Nat) = 0 then upd (σ 0) 4 _ else _) j = _
    rw [if_pos rfl, pk_un hj]
  have rn : ∀ b, b ≠ 0 → b ≠ 20 → b ≠ 21 → sKeep σ b = σ b := fun b h1 h2 h3 => by
    unfold sKeep
    rw [if_neg h1, if_neg h2, if_neg h3]
  have e3 : su (sKeep σ) = su σ := by unfold su; rw [r0 3 (by decide)]
  have e4 := sk_keep h
  have e5 : sf (sKeep σ) = sf σ := by unfold sf; rw [r0 5 (by decide)]
  have e6 : sn (sKeep σ) = sn σ := by unfold sn; rw [r0 6 (by decide)]
  have k : ∀ b, b ≠ 33 → b ≠ 39 → u2 ct2 33 7 (nI (sk σ + 1)) b = ct b := fun b h1 h2 => by rw [u2_n h1, k1 b h2]
  have k33 : ∀ j, j ≠ 7 → u2 ct2 33 7 (nI (sk σ + 1)) 33 j = ct 33 j := fun j hj => by rw [u2_r, pk_un hj, k1 33 (by decide)]
  obtain ⟨a1, a2, a3, a4, a5, a6, a7⟩ := ha
  refine ⟨rfl, ⟨?_, ?_, ?_, ⟨?_, ?_⟩, ?_, ?_, ?_⟩, fun b hb => by rw [k b (by unfold mRow at hb; omega) (by unfold mRow at hb; omega)], rfl⟩
  · rw [k 34 (by decide) (by decide), r0 0 (by decide), r0 1 (by decide), r0 2 (by decide), rn 1 (by decide) (by decide) (by decide), rn 2 (by decide) (by decide) (by decide)]; exact a1
  · rw [k 36 (by decide) (by decide), rn 3 (by decide) (by decide) (by decide)]; exact a2
  · rw [k 38 (by decide) (by decide), k33 5 (by decide), r0 3 (by decide), e3]
    exact ⟨a3.1, fun i hi j hj => by have := h.up; rw [rn _ (by omega) (by omega) (by omega)]; exact a3.2 i hi j hj⟩
  · rw [u2_r, pk_us]
    show _ = (if (0 : Nat) = 0 then upd (σ 0) 4 _ else _) 4
    rw [if_pos rfl, pk_us]
  · intro i hi j hj
    rw [e4] at hi ⊢
    rw [u2_n (by decide), k2, sKeep_k (by omega)]
    unfold spu
    by_cases e : i = 0
    · subst e
      rw [if_pos rfl, if_pos (by omega), show 0 + (111 * (sk σ + 1 - 1 - 0) + j - 111 * sk σ) = j by omega]
      exact a2 j hj
    · rw [if_neg e, if_neg (by omega), show 111 * (sk σ + 1 - 1 - i) + j = 111 * (sk σ - 1 - (i - 1)) + j by omega]
      exact a4.2 (i - 1) (by omega) j hj
  · rw [k33 9 (by decide), k 40 (by decide) (by decide), r0 6 (by decide), e6, rn 4 (by decide) (by decide) (by decide)]; exact a5
  · rw [k33 11 (by decide), r0 5 (by decide)]; exact a6
  · rw [k 41 (by decide) (by decide), e5, rn 5 (by decide) (by decide) (by decide)]; exact a7
theorem k169 (h : WF σ) (ha : MA σ ct) : CE X (d + 2) 169 [.ref 33] (zDm D) ct (fun v D' ct' => v = some (.int (g99 σ).1) ∧ PM (g99 σ).2 D ct D' ct') := by
  have hu := h.kp
  have u7 : ct 33 7 = nI (sk σ) := ha.2.2.2.1.1.trans h.2.2.2.2.1.1
  refine CE_of (Nat.le_of_ble_eq_true rfl) (b169_0 (fun q => b169_7 (zQ_of ?_)) (fun q => ?_))
  · rw [u7, zeq (by omega) (by omega)] at q
    have e : g99 σ = ((-2), σ) := by unfold g99; rw [if_pos q]
    rw [e]; exact ⟨rfl, PM_0 ha⟩
  rw [u7, zeq (by omega) (by omega)] at q
  have e : g99 σ = (nI (sk σ - 1), sBack σ) := by unfold g99; rw [if_neg q]
  have e7 : ct 33 7 - nI 1 = nI (sk σ - 1) := by rw [u7, pk_sub (by omega)]
  obtain ⟨_, _, ct2, he, rfl, rfl, k1, k2⟩ := e106 (X := X) (D := D) (ct := u2 ct 33 7 (nI (sk σ - 1))) (d := d) (a0 := 39) (a2 := 36) (n0 := 222) (n2 := 111) (i := 111 * (sk σ - 1)) (j := 0) (m := 111) rfl rfl (by decide) (by omega) (by decide) (by decide) (by decide)
  refine b169_10 (by rw [e7, pk_mul]; exact he) (b169_41 (zQ_of ?_))
  have s7 : ct2 33 7 = nI (sk σ - 1) := by rw [k1 33 (by decide), u2_r, pk_us]
  rw [e]
  show some (Value.int _) = some (Value.int (nI (sk σ - 1))) ∧ PM (sBack σ) D ct (zDm D) _
  rw [s7]
  have r0 : ∀ j, j ≠ 4 → j ≠ 3 → sBack σ 0 j = σ 0 j := fun j hj hj2 => by
    show (if (0 : Nat) = 0 then upd (upd (σ 0) 4 _) 3 _ else _) j = _
    rw [if_pos rfl, pk_un hj2, pk_un hj]
  have r3 : sBack σ 0 3 = nI 0 := by
    show (if (0 : Nat) = 0 then upd (upd (σ 0) 4 _) 3 _ else _) 3 = _
    rw [if_pos rfl, pk_us]
  have r4 : sBack σ 0 4 = nI (sk σ - 1) := by
    show (if (0 : Nat) = 0 then upd (upd (σ 0) 4 _) 3 _ else _) 4 = _
    rw [if_pos rfl, pk_un (by decide), pk_us]
  have rn : ∀ b, b ≠ 0 → b ≠ 3 → b ≠ 20 → sBack σ b = σ b := fun b h1 h2 h3 => by
    unfold sBack
    rw [if_neg h1, if_neg h2, if_neg h3]
  have e3 : su (sBack σ) = 0 := by unfold su; rw [r3]; rfl
  have e4 := sk_back h
  have e5 : sf (sBack σ) = sf σ := by unfold sf; rw [r0 5 (by decide) (by decide)]
  have e6 : sn (sBack σ) = sn σ := by unfold sn; rw [r0 6 (by decide) (by decide)]
  have k : ∀ b, b ≠ 33 → b ≠ 36 → u2 ct2 33 5 (nI 0) b = ct b := fun b h1 h2 => by rw [u2_n h1, k1 b h2, u2_n h1]
  have k33 : ∀ j, j ≠ 5 → j ≠ 7 → u2 ct2 33 5 (nI 0) 33 j = ct 33 j := fun j hj hj2 => by rw [u2_r, pk_un hj, k1 33 (by decide), u2_r, pk_un hj2]
  obtain ⟨a1, a2, a3, a4, a5, a6, a7⟩ := ha
  refine ⟨rfl, ⟨?_, ?_, ⟨?_, ?_⟩, ⟨?_, ?_⟩, ?_, ?_, ?_⟩, fun b hb => by rw [k b (by unfold mRow at hb; omega) (by unfold mRow at hb; omega)], rfl⟩
  · rw [k 34 (by decide) (by decide), r0 0 (by decide) (by decide), r0 1 (by decide) (by decide), r0 2 (by decide) (by decide), rn 1 (by decide) (by decide) (by decide), rn 2 (by decide) (by decide) (by decide)]; exact a1
  · intro j hj
    rw [u2_n (by decide), k2, if_pos (by omega), u2_n (by decide)]
    have := a4.2 0 (by omega) j hj
    rw [show 111 * (sk σ - 1) + (j - 0) = 111 * (sk σ - 1 - 0) + j by omega]
    exact this
  · rw [u2_r, pk_us, r3]
  · intro i hi; rw [e3] at hi; exact absurd hi (Nat.not_lt_zero _)
  · rw [u2_r, pk_un (by decide), s7, r4]
  · intro i hi j hj
    rw [e4] at hi ⊢
    rw [k 39 (by decide) (by decide)]
    have e0 : i = 0 := by omega
    subst e0
    have e : sBack σ (20 + 0) = σ (20 + 1) := by
      unfold sBack
      rw [if_neg (by omega), if_neg (by omega), if_pos (by omega)]
    rw [e, show sk σ - 1 - 1 - 0 = sk σ - 1 - 1 by omega]
    exact a4.2 1 (by omega) j hj
  · rw [k33 9 (by decide) (by decide), k 40 (by decide) (by decide), r0 6 (by decide) (by decide), e6, rn 4 (by decide) (by decide) (by decide)]; exact a5
  · rw [k33 11 (by decide) (by decide), r0 5 (by decide) (by decide)]; exact a6
  · rw [k 41 (by decide) (by decide), e5, rn 5 (by decide) (by decide) (by decide)]; exact a7
end
