/-! The reference: what was fined, chance, years. -/
def FM (σ ct : zM) : Prop := ct 33 11 = σ 0 5 ∧ ∀ j, j < 2 * sf σ → ct 41 j = σ 5 j
theorem MA.fm {σ ct : zM} (h : MA σ ct) : FM σ ct := h.2.2.2.2.2
theorem FM.k {σ ct ct' : zM} (h : FM σ ct) (k : ∀ b, b ≠ 37 → b ≠ 34 → ct' b = ct b) : FM σ ct' := by
  unfold FM at *
  rw [k 33 (by decide) (by decide), k 41 (by decide) (by decide)]
  exact h
theorem sso_iff {σ : zM} {s : Nat → Int32} : sso σ s = true ↔ ∀ i, i < sf σ → nI (sfine σ (swd (σ 5 (2 * i)) s)) = σ 5 (2 * i + 1) := by
  unfold sso
  exact decide_eq_true_iff
theorem nI_ne4' {j : Nat} (hj : j < 1000000) : ¬ (-4 : Int32) = nI j := by
  intro h
  have h2 := congrArg Int32.toInt h
  rw [nI_toInt (by omega)] at h2
  have : (-4 : Int32).toInt = -4 := by decide
  omega
theorem Nat_gcd_step (u v : Nat) : Nat.gcd v (u % v) = Nat.gcd u v := by
  rw [Nat.gcd_comm u v, Nat.gcd_rec v u, Nat.gcd_comm]
section
variable {X : Nat × (Nat → Int32)} {D : zD} {ct σ : zM} {d a : Nat} {s : Nat → Int32}
theorem e161 (h : WF σ) (hp : MP σ ct) (hf : FM σ ct) (hm : mT ct 37 s) (hk : zOk (sr σ * sc σ) s) : CE X (d + 6) 161 [.ref 33] (zDm D) ct (fun v D' ct' => v = some (.int (yn (sso σ s = true))) ∧ zDm D = D' ∧ ∀ b, b ≠ 37 → ct' b = ct b) := by
  have hfp := h.fp
  have u5 : ct 33 11 = nI (sf σ) := hf.1.trans h.2.2.2.2.2.1.1
  refine CE_of (Nat.le_of_ble_eq_true rfl) (b161_0 ?_)
  refine z_loop0 (sf σ) (fun i ls ct1 => ls = [.ref 33, .int (nI 1), .int (nI i)] ∧ (∀ b, b ≠ 37 → ct1 b = ct b) ∧ (∃ w, mT ct1 37 (swd w s)) ∧ ∀ k, k < i → nI (sfine σ (swd (σ 5 (2 * k)) s)) = σ 5 (2 * k + 1)) ⟨rfl, fun _ _ => rfl, ⟨s 108, by rw [swd_self]; exact hm⟩, fun k hk => absurd hk (Nat.not_lt_zero _)⟩ ?_ ?_
  · rintro i _ ct1 hi ⟨rfl, g1, ⟨w, g2⟩, g3⟩ ih
    have v11 : ct1 33 11 = nI (sf σ) := by rw [g1 33 (by decide), u5]
    refine b161_4 (fun z => ?_) (fun _ => b161_12 (fun z => absurd z (by decide)) (fun _ => ?_))
    · rw [v11, zle (by omega) (by omega)] at z; omega
    have v41 : ct1 41 (2 * i) = σ 5 (2 * i) := by rw [g1 41 (by decide)]; exact hf.2 _ (by omega)
    have v42 : ct1 41 (2 * i + 1) = σ 5 (2 * i + 1) := by rw [g1 41 (by decide)]; exact hf.2 _ (by omega)
    have hm2 : mT (u2 ct1 37 108 (ct1 41 (2 * i))) 37 (swd (σ 5 (2 * i)) s) := by
      have q := mT_wd (w := ct1 41 (2 * i)) g2
      rw [swd_swd] at q
      rw [v41] at q ⊢
      exact q
    have fr : ∀ b, b ≠ 37 → (u2 ct1 37 108 (ct1 41 (2 * i))) b = ct b := fun b hb => by rw [u2_n hb, g1 b hb]
    refine b161_16 (j29 := 2 * i) ⟨by rw [pk_mul], by omega, by decide⟩ (e133 h (hp.k (fr 34 (by decide))) rfl hm2 (swd_ok hk) (by unfold swd; rw [pk_us]; exact h.ww.2.2.2 i hi)) ?_
    refine b161_39 (j48 := 2 * i + 1) ⟨by rw [pk_mul, nI_add], by omega, by decide⟩ (fun q => b161_52 (ih _ _ ⟨by rw [nI_add], fr, ⟨_, hm2⟩, fun k hk2 => ?_⟩)) (fun q => b161_56 ?_)
    · rw [u2_n (by decide), v42] at q
      by_cases e : k = i
      · subst e; exact q
      · exact g3 k (by omega)
    · rw [u2_n (by decide), v42] at q
      have hno : yn (sso σ s = true) = nI 0 := yn_0.2 fun z => q (sso_iff.1 z i hi)
      have fin : RUN X (EV X (d + 5)) 161 (zQ fun v D' ct' => v = some (.int (yn (sso σ s = true))) ∧ zDm D = D' ∧ ∀ b, b ≠ 37 → ct' b = ct b) 64 [.ref 33, .int (nI 0), .int (nI i + nI 1)] [] (mk (zDm D) (u2 ct1 37 108 (ct1 41 (2 * i)))) := b161_64 (zQ_of ⟨by rw [hno], rfl, fr⟩) (Or.inl rfl)
      exact b161_4 (fun _ => fin) (fun _ => b161_12 (fun _ => fin) (fun z => absurd rfl z))
  · rintro _ ct1 ⟨rfl, g1, g2, g3⟩
    have v11 : ct1 33 11 = nI (sf σ) := by rw [g1 33 (by decide), u5]
    refine b161_4 (fun _ => b161_64 (zQ_of ⟨?_, rfl, g1⟩) (Or.inr rfl)) (fun z => absurd (by rw [v11]; exact (zle (by omega) (by omega)).2 (Nat.le_refl _)) z)
    unfold yn
    rw [if_pos (sso_iff.2 g3)]
theorem e160 {i j : Nat} (hi : i < 36) (hj : j < 36) (hij : i ≠ j) (h6 : mT ct 36 s) (h7 : mT ct 37 s) : CE X (d + 1) 160 [.ref 33, .int (nI i), .int (nI j)] (zDm D) ct (fun v D' ct' => v = none ∧ zDm D = D' ∧ (∀ b, b ≠ 37 → ct' b = ct b) ∧ mT ct' 37 (sex i j s)) := by
  have z0 : ∀ k, k < 36 → zix (nI 0 + nI k) k 111 := fun k hk => ⟨by rw [nI_add, Nat.zero_add], by omega, by decide⟩
  have z6 : ∀ k, k < 36 → zix (nI 36 + nI k) (36 + k) 111 := fun k hk => ⟨by rw [nI_add], by omega, by decide⟩
  refine CE_of (Nat.le_of_ble_eq_true rfl) (b160_0 (z0 j hj) (z0 i hi) (z0 i hi) (z0 j hj) (z6 j hj) (z6 i hi) (z6 i hi) (z6 j hj) (zQ_of ⟨rfl, rfl, fun b hb => by rw [u2_n hb, u2_n hb, u2_n hb, u2_n hb], fun k hk => ?_⟩))
  rw [u2_r, u2_r, u2_r, u2_r, h6 j (by omega), h6 i (by omega), h6 (36 + j) (by omega), h6 (36 + i) (by omega)]
  unfold sex
  by_cases e1 : k = i
  · subst e1; rw [pk_un (by omega), pk_un (by omega), pk_un hij, pk_us, if_pos rfl]
  rw [if_neg e1]
  by_cases e2 : k = j
  · subst e2; rw [pk_un (by omega), pk_un (by omega), pk_us, if_pos rfl]
  rw [if_neg e2]
  by_cases e3 : k = 36 + i
  · subst e3; rw [pk_un (by omega), pk_us, if_pos rfl]
  rw [if_neg e3]
  by_cases e4 : k = 36 + j
  · subst e4; rw [pk_us, if_pos rfl]
  rw [if_neg e4, pk_un e4, pk_un e3, pk_un e2, pk_un e1]
  exact h7 k hk
/-- the first found, and how many -/
def fin2 (p : Nat × Int32) : Prop := (p.1 = 0 ∧ p.2 = (-4)) ∨ (p.1 ≠ 0 ∧ p.2 ≠ (-4))
theorem r159_in {P : Option Value → xHp → Prop} {x : Nat} {w : Int32} (h : WF σ) (ha : MA σ ct) (hx : x < sr σ * sc σ) (p0 : Nat × Int32) (hp0 : fin2 p0) {ct1 : zM} (hf1 : ∀ b, b ≠ 37 → ct1 b = ct b)
    (hq : ∀ ct2 (x5 : Int32), fin2 (fmo σ x p0) → (∀ b, b ≠ 37 → ct2 b = ct b) → RUN X (EV X (d + 6)) 159 P 109 [.ref 33, .int w, .int (nI (fmo σ x p0).1), .int (fmo σ x p0).2, .int (nI x), .int x5] [] (mk (zDm D) ct2)) :
    RUN X (EV X (d + 6)) 159 P 32 [.ref 33, .int w, .int (nI p0.1), .int p0.2, .int (nI x), .int (nI (x + 1))] [] (mk (zDm D) ct1) := by
  have hN := h.N
  refine z_loop (N := sr σ * sc σ) (fun i ls ct2 => x + 1 ≤ i ∧ ∃ p : Nat × Int32, ls = [.ref 33, .int w, .int (nI p.1), .int p.2, .int (nI x), .int (nI i)] ∧ fin2 p ∧ (∀ b, b ≠ 37 → ct2 b = ct b) ∧ fmo σ x p0 = zfor (fmi σ x) (sr σ * sc σ - i) i p) ?_ ?_ (sr σ * sc σ - (x + 1)) (x + 1) _ _ (by omega) ⟨Nat.le_refl _, p0, rfl, hp0, hf1, rfl⟩
  · rintro y _ ct2 hy ⟨hxy, p, rfl, hp, g1, g2⟩ ih
    rw [zfor_step hy] at g2
    have hmp := ha.mp.k (g1 34 (by decide))
    have hmt : mT ct2 36 (σ 3) := ha.mt.k (g1 36 (by decide))
    refine b159_32 (e122 h hmp) (b159_38 (fun z => ?_) (fun _ => ?_))
    · rw [zle (by omega) (by omega)] at z; omega
    have zx : zix (nI 0 + nI x) x 111 := ⟨by rw [nI_add, Nat.zero_add], by omega, by decide⟩
    have zy : zix (nI 0 + nI y) y 111 := ⟨by rw [nI_add, Nat.zero_add], by omega, by decide⟩
    refine b159_41 zx zy (fun q => b159_103 (ih _ _ ⟨by omega, p, by rw [nI_add], hp, g1, ?_⟩)) (fun q => ?_)
    · rw [hmt x (by omega), hmt y (by omega)] at q
      rw [g2]; unfold fmi; rw [if_pos q]
    rw [hmt x (by omega), hmt y (by omega)] at q
    obtain ⟨_, _, ct3, he3, rfl, rfl, k1, k2⟩ := e149 (X := X) (D := D) (d := d + 4) hmt
    obtain ⟨_, _, ct4, he4, rfl, rfl, k3, k4⟩ := e160 (X := X) (D := D) (d := d + 5) (ct := ct3) (i := x) (j := y) (by omega) (by omega) (by omega) (hmt.k (k1 36 (by decide))) k2
    have g4 : ∀ b, b ≠ 37 → ct4 b = ct b := fun b hb => by rw [k3 b hb, k1 b hb, g1 b hb]
    obtain ⟨_, _, ct5, he5, hv, rfl, k5⟩ := e161 (X := X) (D := D) (d := d) (ct := ct4) h (ha.mp.k (g4 34 (by decide))) (ha.fm.k fun b hb _ => g4 b hb) k4 (sex_ok h.now (by omega) (by omega))
    subst hv
    have g5 : ∀ b, b ≠ 37 → ct5 b = ct b := fun b hb => by rw [k5 b hb, g4 b hb]
    refine b159_62 he3 (b159_66 he4 (b159_74 he5 (b159_78 (fun z => b159_103 (ih _ _ ⟨by omega, p, by rw [nI_add], hp, g5, ?_⟩)) (fun z => ?_))))
    · rw [yn_0] at z
      rw [g2]; unfold fmi; rw [if_neg q, if_neg z]
    rw [yn_0, Classical.not_not] at z
    have e : fmi σ x y p = (p.1 + 1, if p.1 = 0 then nI (100 * x + y) else p.2) := by unfold fmi; rw [if_neg q, if_pos z]
    rw [e] at g2
    have ne : nI (100 * x + y) ≠ (-4) := fun z => nI_ne4' (by omega) z.symm
    refine b159_81 (fun q2 => b159_90 (ih _ _ ⟨by omega, (p.1 + 1, nI (100 * x + y)), by simp only [pk_mul, nI_add], Or.inr ⟨by omega, ne⟩, g5, ?_⟩)) (fun q2 => b159_101 (ih _ _ ⟨by omega, (p.1 + 1, p.2), by simp only [nI_add], Or.inr ⟨by omega, q2⟩, g5, ?_⟩))
    · have p1 : p.1 = 0 := hp.elim (fun z => z.1) (fun z => absurd q2 z.2)
      rw [if_pos p1] at g2; exact g2
    · have p1 : ¬ p.1 = 0 := hp.elim (fun z => absurd z.2 q2) (fun z => z.1)
      rw [if_neg p1] at g2; exact g2
  · rintro _ ct2 ⟨hxy, p, rfl, hp, g1, g2⟩
    rw [zfor_end] at g2
    refine b159_32 (e122 h (ha.mp.k (g1 34 (by decide)))) (b159_38 (fun _ => ?_) (fun z => absurd ((zle (by omega) (by omega)).2 (Nat.le_refl _)) z))
    have := hq ct2 (nI (sr σ * sc σ)) (by rw [g2]; exact hp) g1
    rw [g2] at this
    exact this
theorem two_01 {w : Int32} (q : w = nI 0 ∨ w = nI 1) (hq : ¬ w = nI 0) : w = nI 1 := q.resolve_left hq
theorem k159 {w : Int32} (h : WF σ) (ha : MA σ ct) : CE X (d + 7) 159 [.ref 33, .int w] (zDm D) ct (fun v D' ct' => v = some (.int (f85 σ w)) ∧ PM σ D ct D' ct') := by
  have hN := h.N
  unfold f85
  refine CE_of (Nat.le_of_ble_eq_true rfl) (b159_0 e148 (b159_4 (fun q => b159_7 (zQ_of ⟨?_, PM_0 ha⟩)) (fun q => b159_9 ?_)))
  · rw [yn_0, two_iff] at q
    rw [if_neg (fun z => q (Or.inl z)), if_neg (fun z => q (Or.inr z))]
  rw [yn_0, two_iff, Classical.not_not] at q
  refine z_loop0 (sr σ * sc σ) (fun i ls ct2 => ∃ (p : Nat × Int32) (l5 : Value), ls = [.ref 33, .int w, .int (nI p.1), .int p.2, .int (nI i), l5] ∧ fin2 p ∧ (∀ b, b ≠ 37 → ct2 b = ct b) ∧ fmvd σ = zfor (fmo σ) (sr σ * sc σ - i) i p) ⟨(0, (-4)), _, rfl, Or.inl ⟨rfl, rfl⟩, fun _ _ => rfl, rfl⟩ ?_ ?_
  · rintro x _ ct2 hx ⟨p, l5, rfl, hp, g1, g2⟩ ih
    rw [zfor_step hx] at g2
    refine b159_17 (e122 h (ha.mp.k (g1 34 (by decide)))) (b159_23 (fun z => ?_) (fun _ => b159_26 ?_))
    · rw [zle (by omega) (by omega)] at z; omega
    rw [nI_add]
    refine r159_in h ha hx p hp g1 fun ct3 x5 q1 q2 => b159_109 (ih _ _ ⟨fmo σ x p, .int x5, ?_, q1, q2, g2⟩)
    rw [nI_add]
  · rintro _ ct2 ⟨p, l5, rfl, hp, g1, g2⟩
    rw [zfor_end] at g2
    refine b159_17 (e122 h (ha.mp.k (g1 34 (by decide)))) (b159_23 (fun _ => ?_) (fun z => absurd ((zle (by omega) (by omega)).2 (Nat.le_refl _)) z))
    refine b159_115 (fun q2 => b159_119 (zQ_of ⟨by rw [if_pos q2, g2], PM_look ha g1⟩)) (fun q2 => b159_123 (zQ_of ⟨by rw [if_neg q2, if_pos (two_01 q q2), g2], PM_look ha g1⟩))
theorem k162 {w : Int32} (h : WF σ) (ha : MA σ ct) : CE X (d + 7) 162 [.ref 33, .int w] (zDm D) ct (fun v D' ct' => v = some (.int (f89 σ w)) ∧ PM σ D ct D' ct') := by
  have hN := h.N
  unfold f89
  refine CE_of (Nat.le_of_ble_eq_true rfl) (b162_0 e148 (b162_4 (fun q => b162_7 (zQ_of ⟨?_, PM_0 ha⟩)) (fun q => b162_9 ?_)))
  · rw [yn_0, two_iff] at q
    rw [if_neg (fun z => q (Or.inl z)), if_neg (fun z => q (Or.inr z))]
  rw [yn_0, two_iff, Classical.not_not] at q
  refine z_loop0 (sr σ * sc σ) (fun i ls ct2 => ∃ p : Nat × Int32, ls = [.ref 33, .int w, .int (nI p.1), .int p.2, .int (nI i)] ∧ fin2 p ∧ (∀ b, b ≠ 37 → ct2 b = ct b) ∧ ffr σ = zfor (fun x p => if sso σ (sey (nI x) (σ 3)) = true then (p.1 + 1, if p.1 = 0 then nI x else p.2) else p) (sr σ * sc σ - i) i p) ⟨(0, (-4)), rfl, Or.inl ⟨rfl, rfl⟩, fun _ _ => rfl, rfl⟩ ?_ ?_
  · rintro x _ ct2 hx ⟨p, rfl, hp, g1, g2⟩ ih
    rw [zfor_step hx] at g2
    have hmt : mT ct2 36 (σ 3) := ha.mt.k (g1 36 (by decide))
    refine b162_17 (e122 h (ha.mp.k (g1 34 (by decide)))) (b162_23 (fun z => ?_) (fun _ => ?_))
    · rw [zle (by omega) (by omega)] at z; omega
    obtain ⟨_, _, ct3, he3, rfl, rfl, k1, k2⟩ := e149 (X := X) (D := D) (d := d + 4) hmt
    have g4 : ∀ b, b ≠ 37 → u2 ct3 37 109 (nI x) b = ct b := fun b hb => by rw [u2_n hb, k1 b hb, g1 b hb]
    obtain ⟨_, _, ct5, he5, hv, rfl, k5⟩ := e161 (X := X) (D := D) (d := d) (ct := u2 ct3 37 109 (nI x)) h (ha.mp.k (g4 34 (by decide))) (ha.fm.k fun b hb _ => g4 b hb) (mT_ey k2) (sey_ok h.now hx)
    subst hv
    have g5 : ∀ b, b ≠ 37 → ct5 b = ct b := fun b hb => by rw [k5 b hb, g4 b hb]
    refine b162_26 he3 (b162_30 he5 (b162_43 (fun z => b162_62 (ih _ _ ⟨p, by rw [nI_add], hp, g5, ?_⟩)) (fun z => ?_)))
    · rw [yn_0] at z
      rw [g2, if_neg z]
    rw [yn_0, Classical.not_not] at z
    rw [if_pos z] at g2
    have ne : nI x ≠ (-4) := fun z => nI_ne4' (by omega) z.symm
    refine b162_46 (fun q2 => b162_55 (ih _ _ ⟨(p.1 + 1, nI x), by rw [nI_add, nI_add], Or.inr ⟨by omega, ne⟩, g5, ?_⟩)) (fun q2 => b162_60 (ih _ _ ⟨(p.1 + 1, p.2), by rw [nI_add, nI_add], Or.inr ⟨by omega, q2⟩, g5, ?_⟩))
    · have p1 : p.1 = 0 := hp.elim (fun z => z.1) (fun z => absurd q2 z.2)
      rw [if_pos p1] at g2; exact g2
    · have p1 : ¬ p.1 = 0 := hp.elim (fun z => absurd z.2 q2) (fun z => z.1)
      rw [if_neg p1] at g2; exact g2
  · rintro _ ct2 ⟨p, rfl, hp, g1, g2⟩
    rw [zfor_end] at g2
    refine b162_17 (e122 h (ha.mp.k (g1 34 (by decide)))) (b162_23 (fun _ => ?_) (fun z => absurd ((zle (by omega) (by omega)).2 (Nat.le_refl _)) z))
    refine b162_68 (fun q2 => b162_72 (zQ_of ⟨by rw [if_pos q2, g2], PM_look ha g1⟩)) (fun q2 => b162_76 (zQ_of ⟨by rw [if_neg q2, if_pos (two_01 q q2), g2], PM_look ha g1⟩))
theorem k163 {x : Int32} (h : WF σ) (ha : MA σ ct) : CE X (d + 7) 163 [.ref 33, .int x] (zDm D) ct (fun v D' ct' => v = some (.int (f90 σ x)) ∧ PM σ D ct D' ct') := by
  have hN := h.N
  unfold f90
  refine CE_of (Nat.le_of_ble_eq_true rfl) (b163_0 (e124 h ha.mp) (b163_5 (fun q => b163_8 (zQ_of ⟨?_, PM_0 ha⟩)) (fun q => ?_)))
  · rw [yn_0] at q; rw [if_neg q]
  rw [yn_0, Classical.not_not] at q
  obtain ⟨j, hj, rfl⟩ := sIn_of q (by omega)
  rw [if_pos q, nI_clamp (by omega)]
  have zx : zix (nI 9 + nI j) (9 + j) 81 := ⟨by rw [nI_add], by omega, by decide⟩
  refine b163_10 zx ?_
  refine z_loop0 8 (fun i ls ct2 => ∃ b, ls = [.ref 33, .int (nI j), .int (ct 34 (9 + j)), .int b, .int (nI i)] ∧ (∀ b, b ≠ 37 → b ≠ 34 → ct2 b = ct b) ∧ (∀ k, k ≠ 9 + j → ct2 34 k = ct 34 k) ∧ fcp σ j = zfor (fun k b => if sso (u2 σ 1 j (nI k)) (σ 3) = true then b ||| (nI 1 <<< (nI k &&& 31)) else b) (8 - i) i b) ⟨nI 0, rfl, fun _ _ _ => rfl, fun _ _ => rfl, rfl⟩ ?_ ?_
  · rintro i _ ct2 hi ⟨b, rfl, g1, g2, g3⟩ ih
    rw [zfor_step hi] at g3
    refine b163_25 (fun z => ?_) (fun _ => ?_)
    · rw [zle (by omega) (by omega)] at z; omega
    obtain ⟨_, _, ct3, he3, rfl, rfl, k1, k2⟩ := e149 (X := X) (D := D) (d := d + 4) (ct := ct2) (s := σ 3) (ha.mt.k (g1 36 (by decide) (by decide)))
    have g4 : ∀ b, b ≠ 37 → b ≠ 34 → u2 ct3 34 (9 + j) (nI i) b = ct b := fun b hb h34 => by rw [u2_n h34, k1 b hb, g1 b hb h34]
    have g5 : ∀ k, k ≠ 9 + j → u2 ct3 34 (9 + j) (nI i) 34 k = ct 34 k := fun k hk => by rw [u2_r, pk_un hk, k1 34 (by decide), g2 k hk]
    have hW : WF (u2 σ 1 j (nI i)) := h.sh hi
    have hP : MP (u2 σ 1 j (nI i)) (u2 ct3 34 (9 + j) (nI i)) := by
      obtain ⟨m1, m2, m3, m4, m5⟩ := ha.mp
      refine ⟨(g5 0 (by omega)).trans m1, (g5 1 (by omega)).trans m2, (g5 2 (by omega)).trans m3, fun k hk => ?_, fun k hk => (g5 (3 + k) (by omega)).trans (m5 k hk)⟩
      rw [u2_r]
      by_cases e : k = j
      · subst e; rw [u2_r, pk_us, pk_us]
      · rw [u2_r, pk_un e, ← m4 k hk, ← g5 (9 + k) (by omega), u2_r]
    have hF : FM (u2 σ 1 j (nI i)) (u2 ct3 34 (9 + j) (nI i)) := by
      have := ha.fm.k (ct' := u2 ct3 34 (9 + j) (nI i)) g4
      exact this
    obtain ⟨_, _, ct5, he5, hv, rfl, k5⟩ := e161 (X := X) (D := D) (d := d) (ct := u2 ct3 34 (9 + j) (nI i)) (σ := u2 σ 1 j (nI i)) hW hP hF (k2.k (u2_n (by decide))) h.now
    subst hv
    have f1 : ∀ b, b ≠ 37 → b ≠ 34 → ct5 b = ct b := fun b hb h34 => by rw [k5 b hb, g4 b hb h34]
    have f2 : ∀ k, k ≠ 9 + j → ct5 34 k = ct 34 k := fun k hk => by rw [k5 34 (by decide), g5 k hk]
    refine b163_32 he3 (b163_36 zx he5 (b163_52 (fun z => b163_62 (ih _ _ ⟨b, by rw [nI_add, show nI 0 = 0 from rfl, Int32.or_zero], f1, f2, ?_⟩)) (fun z => b163_55 (ih _ _ ⟨_, by rw [nI_add], f1, f2, ?_⟩))))
    · rw [yn_0] at z
      rw [if_neg z] at g3; exact g3
    · rw [yn_0, Classical.not_not] at z
      rw [if_pos z] at g3; exact g3
  · rintro _ ct2 ⟨b, rfl, g1, g2, g3⟩
    rw [zfor_end] at g3
    refine b163_25 (fun _ => b163_71 zx (zQ_of ⟨by rw [g3], PM_look ha fun b hb => ?_⟩)) (fun z => absurd ((zle (by omega) (by omega)).2 (Nat.le_refl _)) z)
    by_cases e : b = 34
    · subst e
      funext k
      rw [u2_r]
      by_cases e2 : k = 9 + j
      · subst e2; rw [pk_us]
      · rw [pk_un e2]; exact g2 k e2
    · rw [u2_n e]; exact g1 b hb e
theorem r166 {w : Int32} {A : Nat} {Q : Option Value → xHp → Prop} {C : Nat → List Value → xHp → Option Value → xHp → Prop} (hA : A ≤ 10) (hw : w = nI 0 ∨ w = nI 1) (hq : Q (some (.int (if w = nI 0 then nI (A / Nat.gcd A 10) else nI (10 / Nat.gcd A 10)))) (mk (zDm D) ct)) : ∀ n u v l5, v ≤ n → v ≤ 10 → u ≤ 10 → Nat.gcd u v = Nat.gcd A 10 → RUN X C 166 Q 59 [.ref 33, .int w, .int (nI A), .int (nI u), .int (nI v), l5] [] (mk (zDm D) ct) := by
  have hG : 0 < Nat.gcd A 10 := Nat.gcd_pos_of_pos_right _ (by decide)
  have hG2 : Nat.gcd A 10 ≤ 10 := Nat.gcd_le_right _ (by decide)
  intro n
  induction n with
  | zero =>
    intro u v l5 hv h1 h2 hg
    obtain rfl : v = 0 := Nat.eq_zero_of_le_zero hv
    rw [Nat.gcd_zero_right] at hg
    subst hg
    refine b166_59 (fun _ => b166_80 (fun q => b166_84 (nI_ne0 hG (by omega)) ?_) (fun q => b166_90 (nI_ne0 hG (by omega)) ?_)) (fun z => absurd rfl z)
    · rw [if_pos q] at hq; rw [pk_div (by omega) hG (by omega)]; exact hq
    · rw [if_neg q] at hq; rw [pk_div (by omega) hG (by omega)]; exact hq
  | succ n ih =>
    intro u v l5 hv h1 h2 hg
    by_cases h0 : v = 0
    · subst h0
      exact ih u 0 l5 (Nat.zero_le _) h1 h2 hg
    · refine b166_59 (fun z => absurd ((zeq (b := 0) (by omega) (by omega)).1 z) h0) (fun _ => b166_64 (nI_ne0 (by omega) (by omega)) ?_)
      have hm := Nat.mod_lt u (show 0 < v by omega)
      rw [pk_rem (by omega) (by omega) (by omega)]
      exact ih v (u % v) _ (by omega) (by omega) h1 (by rw [Nat_gcd_step]; exact hg)
theorem k166 {w : Int32} (h : WF σ) (ha : MA σ ct) : CE X (d + 7) 166 [.ref 33, .int w] (zDm D) ct (fun v D' ct' => v = some (.int (f93 σ w)) ∧ PM σ D ct D' ct') := by
  have hN := h.N
  unfold f93
  refine CE_of (Nat.le_of_ble_eq_true rfl) (b166_0 e148 (b166_4 (fun q => b166_7 (zQ_of ⟨?_, PM_0 ha⟩)) (fun q => b166_9 ?_)))
  · rw [yn_0, two_iff] at q
    rw [if_neg (fun z => q (Or.inl z)), if_neg (fun z => q (Or.inr z))]
  rw [yn_0, two_iff, Classical.not_not] at q
  obtain ⟨g, hg, hsum⟩ := h.days
  refine z_loop0 4 (fun i ls ct2 => ∃ A l4 l5, ls = [.ref 33, .int w, .int (nI A), .int (nI i), l4, l5] ∧ MA σ ct2 ∧ (∀ b, ¬ mRow b → ct2 b = ct b) ∧ fdays σ = zfor (fun w A => if σ 0 2 < nI (sfine σ (swd (nI w) (σ 3))) then A else A + (σ 2 w).toNatClampNeg) (4 - i) i A) ⟨0, _, _, rfl, ha, fun _ _ => rfl, rfl⟩ ?_ ?_
  · rintro i _ ct2 hi ⟨A, l4, l5, rfl, a2, g1, g2⟩ ih
    rw [zfor_step hi] at g2
    refine b166_13 (fun z => ?_) (fun _ => ?_)
    · rw [zle (by omega) (by omega)] at z; omega
    obtain ⟨_, _, ct3, he, rfl, k1, k2, rfl⟩ := k165 (X := X) (D := D) (d := d) (w := nI i) (ct := ct2) ⟨i, hi, rfl⟩ h a2
    have g3 : ∀ b, ¬ mRow b → ct3 b = ct b := fun b hb => by rw [k2 b hb, g1 b hb]
    have v34 : ct3 34 (3 + i) = nI ((σ 2 i).toNatClampNeg) := by
      have hl : g i ≤ 10 := by
        rcases (show i = 0 ∨ i = 1 ∨ i = 2 ∨ i = 3 by omega) with rfl | rfl | rfl | rfl <;> omega
      rw [k1.mp.2.2.2.2 i hi, hg i hi, nI_clamp (by omega)]
    refine b166_18 he (b166_24 (fun z => b166_44 (ih _ _ ⟨A, l4, l5, by rw [nI_add, nI_add]; rfl, k1, g3, ?_⟩)) (fun z => b166_33 (j40 := 3 + i) ⟨by rw [nI_add], by omega, by decide⟩ (ih _ _ ⟨A + (σ 2 i).toNatClampNeg, l4, l5, by rw [v34, nI_add, nI_add], k1, g3, ?_⟩)))
    · rw [k1.mp.2.2.1] at z
      rw [if_pos z] at g2; exact g2
    · rw [k1.mp.2.2.1] at z
      rw [if_neg z] at g2; exact g2
  · rintro _ ct2 ⟨A, l4, l5, rfl, a2, g1, g2⟩
    rw [zfor_end] at g2
    have hA := fdays_le h
    rw [g2] at hA
    refine b166_13 (fun _ => b166_53 (r166 hA q (zQ_of ⟨?_, a2, g1, rfl⟩) 10 A 10 _ (Nat.le_refl _) (Nat.le_refl _) hA rfl)) (fun z => absurd (by decide) z)
    rw [g2]
    by_cases q2 : w = nI 0
    · rw [if_pos q2, if_pos q2]
    · rw [if_neg q2, if_neg q2, if_pos (two_01 q q2)]
theorem k170 {w : Int32} (h : WF σ) (ha : MA σ ct) : CE X (d + 2) 170 [.ref 33, .int w] (zDm D) ct (fun v D' ct' => v = some (.int (f100 σ w)) ∧ PM σ D ct D' ct') := by
  refine CE_of (Nat.le_of_ble_eq_true rfl) (b170_0 ?_)
  refine z_loop0 36 (fun i ls ct2 => ct2 = ct ∧ ∃ n, ls = [.ref 33, .int w, .int (nI n), .int (nI i)] ∧ fcv (σ 3) = zfor (fun x n => if σ 3 (72 + x) = nI 0 then n else n + 1) (36 - i) i n) ⟨rfl, 0, rfl, rfl⟩ ?_ ?_
  · rintro i _ _ hi ⟨rfl, n, rfl, g1⟩ ih
    rw [zfor_step hi] at g1
    refine b170_4 (fun z => ?_) (fun _ => ?_)
    · rw [zle (by omega) (by omega)] at z; omega
    refine b170_10 (j19 := 72 + i) ⟨by rw [nI_add], by omega, by decide⟩ ?_
    rw [ha.mt _ (by omega)]
    rcases (h.now.1 i hi).2 with z | z
    · rw [if_pos z] at g1
      rw [z]
      exact ih _ _ ⟨rfl, n, by rw [nI_add, nI_add]; rfl, g1⟩
    · rw [if_neg (by rw [z]; decide)] at g1
      rw [z]
      exact ih _ _ ⟨rfl, n + 1, by rw [nI_add, nI_add], g1⟩
  · rintro _ _ ⟨rfl, n, rfl, g1⟩
    rw [zfor_end] at g1
    refine b170_4 (fun _ => b170_28 ?_) (fun z => absurd (by decide) z)
    have p0 := PM_0 (D := D) ha
    by_cases h0 : ∃ i, i < 11 ∧ w = nI i
    · obtain ⟨i, hi, rfl⟩ := h0
      rcases (show i = 0 ∨ i = 1 ∨ i = 2 ∨ i = 3 ∨ i = 4 ∨ i = 5 ∨ i = 6 ∨ i = 7 ∨ i = 8 ∨ i = 9 ∨ i = 10 by omega) with rfl | rfl | rfl | rfl | rfl | rfl | rfl | rfl | rfl | rfl | rfl
      · exact xsw_in (n := 0) (by decide) rfl (b170_88 (e122 h ha.mp) (b170_92 (zQ_of ⟨rfl, p0⟩)))
      · exact xsw_in (n := 1) (by decide) rfl (b170_93 (zQ_of ⟨by rw [ha.mp.1]; rfl, p0⟩))
      · exact xsw_in (n := 2) (by decide) rfl (b170_100 (zQ_of ⟨by rw [← g1]; rfl, p0⟩))
      · exact xsw_in (n := 3) (by decide) rfl (b170_102 (zQ_of ⟨by rw [ha.mt 110 (by decide)]; rfl, p0⟩))
      · exact xsw_in (n := 4) (by decide) rfl (b170_110 (zQ_of ⟨by rw [ha.mt 108 (by decide)]; rfl, p0⟩))
      · exact xsw_in (n := 5) (by decide) rfl (b170_118 (zQ_of ⟨by rw [ha.mt 109 (by decide)]; rfl, p0⟩))
      · exact xsw_in (n := 6) (by decide) rfl (b170_126 (zQ_of ⟨by rw [ha.mp.2.2.1]; rfl, p0⟩))
      · exact xsw_in (n := 7) (by decide) rfl (b170_133 (zQ_of ⟨by rw [ha.fm.1]; rfl, p0⟩))
      · exact xsw_in (n := 8) (by decide) rfl (b170_138 (zQ_of ⟨by rw [ha.2.2.1.1]; rfl, p0⟩))
      · exact xsw_in (n := 9) (by decide) rfl (b170_143 (zQ_of ⟨by rw [ha.2.2.2.1.1]; rfl, p0⟩))
      · exact xsw_in (n := 10) (by decide) rfl (b170_148 (zQ_of ⟨by rw [ha.2.2.2.2.1.1]; rfl, p0⟩))
    · have hno : ∀ i, i < 11 → w ≠ nI i := fun i hi z => h0 ⟨i, hi, z⟩
      refine xsw_out ?_ (b170_153 (zQ_of ⟨?_, p0⟩))
      · rcases pk_ix w (n := 11) (by decide) with z | z | ⟨j, hj, z⟩
        · left; rw [Int32.lt_iff_toInt_lt] at z
          have : (0 : Int32).toInt = 0 := by decide
          omega
        · right; rw [Int32.le_iff_toInt_le, nI_toInt (by decide)] at z
          show (11 : Int) ≤ w.toInt - 0
          omega
        · exact absurd z (hno j hj)
      · unfold f100
        rw [if_neg (hno 0 (by decide)), if_neg (hno 1 (by decide)), if_neg (hno 2 (by decide)), if_neg (hno 3 (by decide)), if_neg (hno 4 (by decide)), if_neg (hno 5 (by decide)), if_neg (hno 6 (by decide)), if_neg (hno 7 (by decide)), if_neg (hno 8 (by decide)), if_neg (hno 9 (by decide)), if_neg (hno 10 (by decide))]
end
