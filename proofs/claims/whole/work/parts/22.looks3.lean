/-! The class's calls: copy, moved, never, count. -/
/-- two cells' things exchanged -/
def sex (i j : Nat) (s : Nat → Int32) : Nat → Int32 := fun k => if k = i then s j else if k = j then s i else if k = 36 + i then s (36 + j) else if k = 36 + j then s (36 + i) else s k
theorem sex_sex {i j : Nat} {s : Nat → Int32} (hi : i < 36) (hj : j < 36) (hij : i ≠ j) : sex i j (sex i j s) = s := by
  funext k
  unfold sex
  by_cases h1 : k = i
  · subst h1; rw [if_pos rfl, if_neg (by omega), if_pos rfl]
  rw [if_neg h1]
  by_cases h2 : k = j
  · subst h2; rw [if_pos rfl, if_pos rfl]
  rw [if_neg h2]
  by_cases h3 : k = 36 + i
  · subst h3; rw [if_pos rfl, if_neg (by omega), if_neg (by omega), if_neg (by omega), if_pos rfl]
  rw [if_neg h3]
  by_cases h4 : k = 36 + j
  · subst h4; rw [if_pos rfl, if_neg (by omega), if_neg (by omega), if_pos rfl]
  rw [if_neg h4, if_neg h1, if_neg h2, if_neg h3, if_neg h4]
theorem sex_ok {N i j : Nat} {s : Nat → Int32} (h : zOk N s) (hi : i < 36) (hj : j < 36) : zOk N (sex i j s) := by
  unfold sex
  refine ⟨fun k hk => ⟨?_, ?_⟩, ?_⟩
  · by_cases h1 : k = i
    · simp only [if_pos h1]; exact (h.1 j hj).1
    simp only [if_neg h1]
    by_cases h2 : k = j
    · simp only [if_pos h2]; exact (h.1 i hi).1
    simp only [if_neg h2, if_neg (show ¬ k = 36 + i by omega), if_neg (show ¬ k = 36 + j by omega)]
    exact (h.1 k hk).1
  · simp only [if_neg (show ¬ 72 + k = i by omega), if_neg (show ¬ 72 + k = j by omega), if_neg (show ¬ 72 + k = 36 + i by omega), if_neg (show ¬ 72 + k = 36 + j by omega)]
    exact (h.1 k hk).2
  · simp only [if_neg (show ¬ 109 = i by omega), if_neg (show ¬ 109 = j by omega), if_neg (show ¬ 109 = 36 + i by omega), if_neg (show ¬ 109 = 36 + j by omega)]
    exact h.2
theorem sex_wd {i j : Nat} {w : Int32} {s : Nat → Int32} (hi : i < 36) (hj : j < 36) : sex i j (swd w s) = swd w (sex i j s) := by
  funext k
  unfold sex swd
  by_cases h : k = 108
  · subst h
    rw [pk_us, if_neg (by omega), if_neg (by omega), if_neg (by omega), if_neg (by omega), pk_us]
  · rw [pk_un h, pk_un (by omega), pk_un (by omega), pk_un (by omega), pk_un (by omega), pk_un h]
def fmi (σ : zM) (a : Nat) : Nat → Nat × Int32 → Nat × Int32 := fun b p => if σ 3 a = σ 3 b then p else if sso σ (sex a b (σ 3)) = true then (p.1 + 1, if p.1 = 0 then nI (100 * a + b) else p.2) else p
def fmo (σ : zM) : Nat → Nat × Int32 → Nat × Int32 := fun a p => zfor (fmi σ a) (sr σ * sc σ - (a + 1)) (a + 1) p
def fmvd (σ : zM) : Nat × Int32 := zfor (fmo σ) (sr σ * sc σ) 0 (0, (-4))
def f85 (σ : zM) (w : Int32) : Int32 := if w = nI 0 then nI (fmvd σ).1 else if w = nI 1 then (fmvd σ).2 else (-1)
def fcv (s : Nat → Int32) : Nat := zfor (fun x n => if s (72 + x) = nI 0 then n else n + 1) 36 0 0
def f100 (σ : zM) (w : Int32) : Int32 := if w = nI 0 then nI (sr σ * sc σ) else if w = nI 1 then σ 0 0 else if w = nI 2 then nI (fcv (σ 3)) else if w = nI 3 then σ 3 110 else if w = nI 4 then σ 3 108 else if w = nI 5 then σ 3 109 else if w = nI 6 then σ 0 2 else if w = nI 7 then σ 0 5 else if w = nI 8 then σ 0 3 else if w = nI 9 then σ 0 4 else if w = nI 10 then σ 0 6 else (-1)
section
variable {X : Nat × (Nat → Int32)} {D : zD} {ct σ : zM} {d a : Nat}
theorem e87 {i j : Nat} {s : Nat → Int32} (ha : zsh D a = (3, 0)) (hi : i < 36) (hj : j < 36) (hij : i ≠ j) (hm : zTm ct a s) : CE X (d + 2) 87 [.ref a, .int (nI i), .int (nI j)] D ct (fun v D' ct' => v = none ∧ D = D' ∧ zTm ct' a (sex i j s) ∧ zO a ct ct') := by
  refine CE_of (Nat.le_of_ble_eq_true rfl) ?_
  refine b87_0 ha (fun z => absurd z (nI_nlt (by omega) (by omega))) (fun _ => ?_)
  refine b87_4 ha (fun z => ?_) (fun _ => ?_)
  · rw [zle (by omega) (by omega)] at z; omega
  refine b87_10 ha (fun z => absurd z (nI_nlt (by omega) (by omega))) (fun _ => ?_)
  refine b87_14 ha (fun _ => ?_) (fun z => absurd ((zlt (by omega) (by omega)).2 hj) z)
  have zi : zix (nI i) i 36 := zix_nI hi (by decide)
  have zj : zix (nI j) j 36 := zix_nI hj (by decide)
  refine b87_21 ha zi zi zj zj (e31 ha hi) ?_
  refine b87_53 ha (e31 ha hj) (b87_61 ha (zQ_of ⟨rfl, rfl, ⟨fun k hk => ⟨?_, ?_, ?_⟩, ?_, ?_, ?_⟩, fun b hb => ?_⟩))
  · rw [u2_n (by omega), u2_r, u2_n (by omega), u2_r]
    unfold sex
    by_cases h1 : k = i
    · subst h1
      rw [pk_un hij, pk_us, if_pos rfl]; exact (hm.1 j hj).1
    · rw [if_neg h1]
      by_cases h2 : k = j
      · subst h2; rw [pk_us, if_pos rfl]; exact (hm.1 i hi).1
      · rw [pk_un h2, pk_un h1, if_neg h2, if_neg (by omega), if_neg (by omega)]; exact (hm.1 k hk).1
  · rw [u2_r, u2_n (by omega), u2_r, u2_n (by omega)]
    unfold sex
    rw [if_neg (by omega), if_neg (by omega)]
    by_cases h1 : k = i
    · subst h1
      rw [pk_un hij, pk_us, if_pos rfl]; exact (hm.1 j hj).2.1
    · rw [if_neg (by omega)]
      by_cases h2 : k = j
      · subst h2; rw [pk_us, if_pos rfl]; exact (hm.1 i hi).2.1
      · rw [pk_un h2, pk_un h1, if_neg (by omega)]; exact (hm.1 k hk).2.1
  · rw [u2_n (by omega), u2_n (by omega), u2_n (by omega), u2_n (by omega), (hm.1 k hk).2.2]
    unfold sex
    rw [if_neg (by omega), if_neg (by omega), if_neg (by omega), if_neg (by omega)]
  · rw [u2_n (by omega), u2_n (by omega), u2_n (by omega), u2_n (by omega), hm.2.1]
    unfold sex
    rw [if_neg (by omega), if_neg (by omega), if_neg (by omega), if_neg (by omega)]
  · rw [u2_n (by omega), u2_n (by omega), u2_n (by omega), u2_n (by omega), hm.2.2.1]
    unfold sex
    rw [if_neg (by omega), if_neg (by omega), if_neg (by omega), if_neg (by omega)]
  · rw [u2_n (by omega), u2_n (by omega), u2_n (by omega), u2_n (by omega), hm.2.2.2]
    unfold sex
    rw [if_neg (by omega), if_neg (by omega), if_neg (by omega), if_neg (by omega)]
  · rw [u2_n (by omega), u2_n (by omega), u2_n (by omega), u2_n (by omega)]
/-- what stands in the search for moved things -/
def zMv (σ ct ct1 : zM) : Prop := zLk ct ct1 ∧ ∃ w, zTm ct1 22 (swd w (σ 3))
theorem r85_in {Q : Option Value → xHp → Prop} {x : Nat} {y0 : Int32} (h : WF σ) (ha : CA σ D ct) (hx : x < sr σ * sc σ) (p1 : Nat × Int32)
    (hq : ∀ ct2, p1.1 ≤ 100 * x + sr σ * sc σ → zMv σ ct ct2 → RUN X (EV X (d + 6)) 85 Q 142 [.ref 0, .int y0, .int (nI (sr σ * sc σ)), .int (nI p1.1), .int p1.2, .int (nI x), .int (nI (sr σ * sc σ))] [] (mk D ct2)) :
    ∀ k y ct1 p, y + k = sr σ * sc σ → x < y → p.1 ≤ 100 * x + y → zMv σ ct ct1 → p1 = zfor (fmi σ x) k y p → RUN X (EV X (d + 6)) 85 Q 51 [.ref 0, .int y0, .int (nI (sr σ * sc σ)), .int (nI p.1), .int p.2, .int (nI x), .int (nI y)] [] (mk D ct1)
  | 0, y, ct1, p, hy, hxy, hp, hmv, he => by
    have hN := h.N
    have : y = sr σ * sc σ := by omega
    subst this
    subst he
    exact b85_51 (fun _ => hq ct1 hp hmv) (fun z => absurd ((zle (by omega) (by omega)).2 (Nat.le_refl _)) z)
  | k + 1, y, ct1, p, hy, hxy, hp, hmv, he => by
    have hN := h.N
    have hk := h.2.2.2.2.2.2.2.2.2.1
    obtain ⟨l1, ⟨w, hw⟩⟩ := hmv
    have ih := fun ct2 p2 => r85_in (Q := Q) (y0 := y0) h ha hx p1 hq k (y + 1) ct2 p2 (by omega) (by omega)
    have he : p1 = zfor (fmi σ x) k (y + 1) (fmi σ x y p) := he
    refine b85_51 (fun z => ?_) (fun _ => b85_57 (fun z => ?_) (fun _ => ?_))
    · rw [zle (by omega) (by omega)] at z; omega
    · rw [zle (by omega) (by omega)] at z; omega
    have e1 : ct1 23 x = σ 3 x := by
      rw [(hw.1 x (by omega)).1]; unfold swd; rw [pk_un (by omega)]
    have e2 : ct1 23 y = σ 3 y := by
      rw [(hw.1 y (by omega)).1]; unfold swd; rw [pk_un (by omega)]
    refine b85_64 (zix_nI (by omega) (by decide)) (zix_nI (by omega) (by decide)) (fun h1 => b85_87 ?_) (fun h1 => ?_)
    · rw [e1, e2] at h1
      rw [nI_add]
      refine ih ct1 p (by omega) ⟨l1, ⟨w, hw⟩⟩ ?_
      unfold fmi at he
      rw [if_pos h1] at he
      exact he
    · rw [e1, e2] at h1
      obtain ⟨_, _, ct2, he2, rfl, rfl, g1, g2⟩ := e87 (X := X) (D := D) (ct := ct1) (d := d + 4) (a := 22) (i := x) (j := y) rfl (by omega) (by omega) (by omega) hw
      refine b85_90 he2 ?_
      have l2 : zLk ct ct2 := l1.t fun b hb => g2 b (by omega)
      rw [sex_wd (by omega) (by omega)] at g1
      obtain ⟨_, _, ct3, he3, rfl, rfl, g3, w2, g4⟩ := f88 (X := X) (D := D) (ct := ct2) (d := d) h (ha.1.lk l2) (ha.2.2.2.2.2.1.lk l2) g1 (swd_ok (sex_ok hk (by omega) (by omega)))
      rw [sso_wd] at he3
      rw [swd_swd] at g4
      have l3 : zLk ct ct3 := l2.t g3
      -- back
      obtain ⟨_, _, ct5, he5, rfl, rfl, g5, g6⟩ := e87 (X := X) (D := D) (ct := ct3) (d := d + 4) (a := 22) (i := x) (j := y) rfl (by omega) (by omega) (by omega) g4
      rw [sex_wd (by omega) (by omega), sex_sex (by omega) (by omega) (by omega)] at g5
      have m1 : zMv σ ct ct5 := ⟨l3.t fun b hb => g6 b (by omega), ⟨w2, g5⟩⟩
      refine b85_101 he3 (b85_105 (fun h5 => ?_) (fun h5 => ?_))
      · have hns : ¬ sso σ (sex x y (σ 3)) = true := fun z => by rw [if_pos z] at h5; exact absurd h5 (by decide)
        refine b85_125 he5 (b85_136 ?_)
        rw [nI_add]
        refine ih ct5 p (by omega) m1 ?_
        unfold fmi at he
        rw [if_neg h1, if_neg hns] at he
        exact he
      · have hs : sso σ (sex x y (σ 3)) = true := by
          by_cases z : sso σ (sex x y (σ 3)) = true
          · exact z
          · rw [if_neg z] at h5; exact absurd rfl h5
        have he : p1 = zfor (fmi σ x) k (y + 1) (p.1 + 1, if p.1 = 0 then nI (100 * x + y) else p.2) := by
          have he' := he
          unfold fmi at he'
          rw [if_neg h1, if_pos hs] at he'
          exact he'
        refine b85_108 (fun h6 => ?_) (fun h6 => ?_)
        · rw [zeq (b := 0) (by omega) (by omega)] at h6
          refine b85_112 he5 (b85_136 ?_)
          rw [nI_add, nI_add, pk_mul, nI_add]
          refine ih ct5 (p.1 + 1, nI (100 * x + y)) (by show p.1 + 1 ≤ _; omega) m1 ?_
          rw [if_pos h6] at he; exact he
        · rw [zeq (b := 0) (by omega) (by omega)] at h6
          refine b85_122 he5 (b85_136 ?_)
          rw [nI_add, nI_add]
          refine ih ct5 (p.1 + 1, p.2) (by show p.1 + 1 ≤ _; omega) m1 ?_
          rw [if_neg h6] at he; exact he
theorem r85_out {Q : Option Value → xHp → Prop} {y0 : Int32} (h : WF σ) (ha : CA σ D ct) (hq : ∀ ct2 x5 l6, zMv σ ct ct2 → RUN X (EV X (d + 6)) 85 Q 148 [.ref 0, .int y0, .int (nI (sr σ * sc σ)), .int (nI (fmvd σ).1), .int (fmvd σ).2, .int x5, l6] [] (mk D ct2)) :
    ∀ k x ct1 p l6, x + k = sr σ * sc σ → p.1 ≤ 100 * x → zMv σ ct ct1 → fmvd σ = zfor (fmo σ) k x p → RUN X (EV X (d + 6)) 85 Q 32 [.ref 0, .int y0, .int (nI (sr σ * sc σ)), .int (nI p.1), .int p.2, .int (nI x), l6] [] (mk D ct1)
  | 0, x, ct1, p, l6, hx, hp, hmv, he => by
    have hN := h.N
    have : x = sr σ * sc σ := by omega
    subst this
    have e : p = fmvd σ := he.symm
    subst e
    exact b85_32 (fun _ => hq ct1 _ _ hmv) (fun z => absurd ((zle (by omega) (by omega)).2 (Nat.le_refl _)) z)
  | k + 1, x, ct1, p, l6, hx, hp, hmv, he => by
    have hN := h.N
    have he : fmvd σ = zfor (fmo σ) k (x + 1) (fmo σ x p) := he
    refine b85_32 (fun z => ?_) (fun _ => b85_38 (fun z => ?_) (fun _ => ?_))
    · rw [zle (by omega) (by omega)] at z; omega
    · rw [zle (by omega) (by omega)] at z; omega
    refine b85_45 ?_
    rw [nI_add]
    refine r85_in h ha (by omega) (fmo σ x p) (fun ct2 hp2 hmv2 => b85_142 ?_) (sr σ * sc σ - (x + 1)) (x + 1) ct1 p (by omega) (by omega) (by omega) hmv rfl
    rw [nI_add]
    exact r85_out h ha hq k (x + 1) ct2 _ _ (by omega) (by omega) hmv2 he
theorem k85 {w : Int32} (h : WF σ) (ha : CA σ D ct) : CE X (d + 7) 85 [.ref 0, .int w] D ct (fun v D' ct' => v = some (.int (f85 σ w)) ∧ PC σ D ct D' ct') := by
  refine CE_of (Nat.le_of_ble_eq_true rfl) ?_
  have p0 := PC_lk ha (ct' := ct) fun _ _ => rfl
  refine b85_0 (fun h1 => b85_9 (zQ_of ⟨by unfold f85; rw [f2_n (Or.inl h1)], p0⟩)) (fun h1 => ?_)
  refine b85_4 (fun h2 => ?_) (fun h2 => b85_9 (zQ_of ⟨by unfold f85; rw [f2_n (Or.inr h2)], p0⟩))
  obtain ⟨i, hi, rfl⟩ := z_in (by decide) h1 h2
  obtain ⟨_, _, ct1, he, rfl, rfl, g1, g2⟩ := f42 (X := X) (D := D) (ct := ct) (d := d + 4) h ha.2.1
  refine b85_11 he ?_
  have l0 : zLk ct ct1 := fun b hb => g2 b (by omega)
  refine b85_15 (e36 rfl (h.V (ha.1.lk l0))) (b85_22 ?_)
  unfold f85
  refine r85_out h ha (fun ct2 x5 l6 hmv => ?_) (sr σ * sc σ) 0 ct1 (0, (-4)) _ (by omega) (Nat.le_refl _) ⟨l0, ⟨σ 3 108, by rw [swd_self]; exact g1⟩⟩ rfl
  refine b85_148 (fun h5 => b85_152 (zQ_of ⟨by rw [if_pos h5], PC_lk ha hmv.1⟩)) (fun h5 => b85_156 (zQ_of ⟨?_, PC_lk ha hmv.1⟩))
  rw [if_neg h5, if_pos]
  rw [zeq (b := 0) (by omega) (by omega)] at h5
  rw [show i = 1 by omega]
theorem e101 {s : Nat → Int32} (ha : zsh D a = (3, 0)) (hm : zTm ct a s) : EV X (d + 1) 101 [.ref a] (mk D ct) (some (.int (nI (fcv s)))) (mk D ct) := by
  refine EV_intro (Nat.le_of_ble_eq_true rfl) (b101_0 ha ?_)
  refine z_loop0 36 (fun x ls ct1 => ct1 = ct ∧ ∃ n, ls = [.ref a, .int (nI n), .int (nI x)] ∧ fcv s = zfor (fun x n => if s (72 + x) = nI 0 then n else n + 1) (36 - x) x n) ⟨rfl, 0, rfl, rfl⟩ ?_ ?_
  · rintro x _ _ hx ⟨rfl, n, rfl, he⟩ ih
    rw [zfor_step hx] at he
    refine b101_4 ha (fun z => ?_) (fun _ => ?_)
    · rw [zle (by omega) (by omega)] at z; omega
    refine b101_10 ha (zix_nI hx (by decide)) (fun h1 => b101_22 ha (ih _ _ ⟨rfl, n, by rw [nI_add], ?_⟩)) (fun h1 => b101_19 ha (ih _ _ ⟨rfl, n + 1, by rw [nI_add, nI_add], ?_⟩))
    · rw [(hm.1 x hx).2.2] at h1; rw [if_pos h1] at he; exact he
    · rw [(hm.1 x hx).2.2] at h1; rw [if_neg h1] at he; exact he
  · rintro _ _ ⟨rfl, n, rfl, he⟩
    rw [zfor_end] at he
    exact b101_4 ha (fun _ => b101_28 ha ⟨by rw [he], rfl⟩) (fun z => absurd (by decide) z)
theorem k100 {w : Int32} (h : WF σ) (ha : CA σ D ct) : CE X (d + 3) 100 [.ref 0, .int w] D ct (fun v D' ct' => v = some (.int (f100 σ w)) ∧ PC σ D ct D' ct') := by
  refine CE_of (Nat.le_of_ble_eq_true rfl) (b100_0 ?_)
  have p0 := PC_lk ha (ct' := ct) fun _ _ => rfl
  by_cases h0 : ∃ i, i < 11 ∧ w = nI i
  · obtain ⟨i, hi, rfl⟩ := h0
    rcases (show i = 0 ∨ i = 1 ∨ i = 2 ∨ i = 3 ∨ i = 4 ∨ i = 5 ∨ i = 6 ∨ i = 7 ∨ i = 8 ∨ i = 9 ∨ i = 10 by omega) with rfl | rfl | rfl | rfl | rfl | rfl | rfl | rfl | rfl | rfl | rfl
    · exact xsw_in (n := 0) (by decide) rfl (b100_60 (e36 rfl (h.V ha.1)) (b100_67 (zQ_of ⟨rfl, p0⟩)))
    · exact xsw_in (n := 1) (by decide) rfl (b100_68 (zQ_of ⟨by rw [ha.1.1]; rfl, p0⟩))
    · exact xsw_in (n := 2) (by decide) rfl (b100_76 (e101 rfl ha.2.1) (b100_83 (zQ_of ⟨rfl, p0⟩)))
    · exact xsw_in (n := 3) (by decide) rfl (b100_84 (zQ_of ⟨by rw [ha.2.1.2.2.2]; rfl, p0⟩))
    · exact xsw_in (n := 4) (by decide) rfl (b100_92 (zQ_of ⟨by rw [ha.2.1.2.1]; rfl, p0⟩))
    · exact xsw_in (n := 5) (by decide) rfl (b100_100 (zQ_of ⟨by rw [ha.2.1.2.2.1]; rfl, p0⟩))
    · exact xsw_in (n := 6) (by decide) rfl (b100_108 (zQ_of ⟨by rw [ha.1.2.2.1]; rfl, p0⟩))
    · exact xsw_in (n := 7) (by decide) rfl (b100_116 (zQ_of ⟨by rw [ha.2.2.2.2.2.1.1]; rfl, p0⟩))
    · exact xsw_in (n := 8) (by decide) rfl (b100_121 (zQ_of ⟨by rw [ha.2.2.1.1, ← h.2.2.2.1.1]; rfl, p0⟩))
    · exact xsw_in (n := 9) (by decide) rfl (b100_129 (zQ_of ⟨by rw [ha.2.2.2.1.1, ← h.2.2.2.2.1.1]; rfl, p0⟩))
    · exact xsw_in (n := 10) (by decide) rfl (b100_137 (zQ_of ⟨by rw [ha.2.2.2.2.2.2.1]; rfl, p0⟩))
  · have hw : f100 σ w = (-1) := by
      unfold f100
      rw [if_neg, if_neg, if_neg, if_neg, if_neg, if_neg, if_neg, if_neg, if_neg, if_neg, if_neg]
      all_goals (intro z; exact h0 ⟨_, by decide, z⟩)
    refine xsw_out ?_ (b100_145 (zQ_of ⟨by rw [hw], p0⟩))
    rcases pk_ix w (n := 11) (by decide) with h1 | h1 | h1
    · left
      rw [Int32.lt_iff_toInt_lt] at h1
      have : (0 : Int32).toInt = 0 := by decide
      omega
    · right
      rw [Int32.le_iff_toInt_le] at h1
      have e1 : (nI 11).toInt = 11 := by decide
      show (11 : Int) ≤ _
      omega
    · exact absurd h1 h0
end
